import java.util.ArrayList;
import java.util.List;

/**
 * One object with the calls that were made on it: a wrong answer is told with the sentence that it
 * breaks and the run that led to it. No test may go beyond the calls for which the document speaks.
 */
final class Run {
    static final int MOST_CALLS = 512;
    static final int LEAST = Integer.MIN_VALUE;
    static final int MOST = Integer.MAX_VALUE;
    static final int REFUSED = -1;
    static final int FULL = -2;
    static final int NONE = -3;
    static final long NOTHING = 1099511627776L;
    static final long GONE = 2199023255552L;

    private final int promise;
    private final String sentence;
    private final VersionMaps maps = new VersionMaps();
    private final List<String> calls = new ArrayList<>();
    private final List<Long> answers = new ArrayList<>();

    Run(int promise, String sentence) {
        this.promise = promise;
        this.sentence = sentence;
    }

    private Run made(String call, long answer) {
        calls.add(call);
        answers.add(answer);
        if (calls.size() == MOST_CALLS + 1) {
            Check.due(promise, sentence + ": the test's calls", calls.size(), MOST_CALLS);
        }
        return this;
    }

    /** The answer of the call before. */
    long answer() {
        return answers.get(answers.size() - 1);
    }

    int made() {
        return calls.size();
    }

    String call(int i) {
        return calls.get(i);
    }

    long answer(int i) {
        return answers.get(i);
    }

    /** What the call before had to answer. */
    Run is(long due) {
        int last = calls.size() - 1;
        String call = calls.get(last);
        if (answer() != due) {
            call = "\"" + sentence + "\": after " + calls.subList(0, last) + " " + call;
        }
        Check.due(promise, call, answer(), due);
        return this;
    }

    Run put(int m, int k, int v) {
        return made("put(" + m + ", " + k + ", " + v + ")", maps.put(m, k, v));
    }

    Run remove(int m, int k) {
        return made("remove(" + m + ", " + k + ")", maps.remove(m, k));
    }

    Run get(int m, int k) {
        return made("get(" + m + ", " + k + ")", maps.get(m, k));
    }

    Run at(int version, int m, int k) {
        return made("at(" + version + ", " + m + ", " + k + ")", maps.at(version, m, k));
    }

    Run next(int m, int k) {
        return made("next(" + m + ", " + k + ")", maps.next(m, k));
    }

    Run commit() {
        return made("commit()", maps.commit());
    }

    Run rollback(int version) {
        return made("rollback(" + version + ")", maps.rollback(version));
    }

    Run pin(int version) {
        return made("pin(" + version + ")", maps.pin(version));
    }

    Run unpin(int version) {
        return made("unpin(" + version + ")", maps.unpin(version));
    }

    Run hold(int n) {
        return made("hold(" + n + ")", maps.hold(n));
    }

    Run sync() {
        return made("sync()", maps.sync());
    }

    Run compact(int n) {
        return made("compact(" + n + ")", maps.compact(n));
    }

    Run crash(int k, int mask) {
        return made("crash(" + k + ", " + mask + ")", maps.crash(k, mask));
    }

    Run chunk(int k, int what) {
        return made("chunk(" + k + ", " + what + ")", maps.chunk(k, what));
    }

    Run block(int b, int what) {
        return made("block(" + b + ", " + what + ")", maps.block(b, what));
    }

    Run kept(int k) {
        return made("kept(" + k + ")", maps.kept(k));
    }

    Run count(int what) {
        return made("count(" + what + ")", maps.count(what));
    }

    /** A chunk of three pages and two blocks: a leaf, its root, a meta. */
    Run commitOne(int m, int k, int v) {
        return put(m, k, v).commit();
    }

    /** A chunk of a meta alone, of one block, if map 3 has no key. */
    Run commitMeta() {
        return put(3, 31, 0).remove(3, 31).commit();
    }

    /** All leaves of all maps: the next chunk has 21 pages and 11 blocks. */
    Run putEverywhere(int v) {
        for (int leaf = 0; leaf < 16; leaf++) {
            put(leaf / 4, leaf % 4 * 8, v);
        }
        return this;
    }

    /** As many chunks of one block; all but the last one are dead. */
    Run rollbackOften(int version, int often) {
        for (int i = 0; i < often; i++) {
            rollback(version);
        }
        return this;
    }

    Run pinOften(int version, int often) {
        for (int i = 0; i < often; i++) {
            pin(version);
        }
        return this;
    }

    Run countsAre(int... due) {
        for (int what = 0; what < due.length; what++) {
            count(what).is(due[what]);
        }
        return this;
    }

    Run keptAre(int... due) {
        for (int i = 0; i < due.length; i++) {
            kept(i).is(due[i]);
        }
        return kept(due.length).is(REFUSED).count(1).is(due.length);
    }

    Run chunkIs(int k, int... due) {
        for (int what = 0; what < due.length; what++) {
            chunk(k, what).is(due[what]);
        }
        return this;
    }

    /** The ids of the chunks that blocks 0 and on hold. */
    Run blocksHold(int... ids) {
        for (int b = 0; b < ids.length; b++) {
            block(b, 1).is(ids[b]);
        }
        return this;
    }

    /** Which of the blocks 0 and on are free: 1 or 0 for each. */
    Run blocksFree(int... due) {
        for (int b = 0; b < due.length; b++) {
            block(b, 0).is(due[b]);
        }
        return this;
    }
}
