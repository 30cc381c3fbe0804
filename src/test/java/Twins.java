import java.util.ArrayList;
import java.util.List;

/**
 * Whether a call changes nothing: two objects come to the same state, one of them makes the call
 * too, and both must answer alike to all that follows. What follows is asked of fresh pairs, since
 * one object has too few calls for all of it and some of it changes what is asked.
 */
final class Twins {
    /** Some calls. */
    interface Steps {
        void on(Run x);
    }

    private static final List<Steps> PROBES = probes();

    private Twins() {
    }

    /** In that state the call answers what is due, and changes nothing. */
    static void unchanged(int promise, String sentence, Steps state, Steps call, long due) {
        Run x = new Run(promise, sentence);
        state.on(x);
        call.on(x);
        x.is(due);
        unchanged(promise, sentence, state, call);
    }

    /** In that state the call changes nothing, whatever it answers. */
    static void unchanged(int promise, String sentence, Steps state, Steps call) {
        for (Steps probe : PROBES) {
            Run one = new Run(promise, sentence);
            Run other = new Run(promise, sentence);
            state.on(one);
            state.on(other);
            int before = other.made();
            call.on(one);
            int after = one.made();
            probe.on(one);
            probe.on(other);
            compare(promise, sentence, one, after, other, before);
        }
    }

    private static void compare(int promise, String sentence, Run one, int after, Run other, int before) {
        Check.due(promise, sentence + ": calls that follow", one.made() - after, other.made() - before);
        for (int i = 0; i < Math.min(one.made() - after, other.made() - before); i++) {
            if (one.answer(after + i) != other.answer(before + i)) {
                Check.due(promise, "\"" + sentence + "\": after " + one.call(after - 1) + ", which changes nothing, "
                    + one.call(after + i), one.answer(after + i), other.answer(before + i));
                return;
            }
        }
    }

    private static List<Steps> probes() {
        List<Steps> all = new ArrayList<>();
        all.add(x -> { counts(x); kept(x); });
        all.add(Twins::chunks);
        all.add(Twins::blocks);
        all.add(Twins::ints);
        for (int i = 0; i < 4; i++) {
            int which = i;
            all.add(x -> oldInts(x, which));
            all.add(x -> { x.rollback(versionAt(x, which)); counts(x); chunks(x); });
            all.add(x -> { x.rollback(versionAt(x, which)); ints(x); });
        }
        all.add(Twins::pins);
        all.add(x -> { x.hold(0); counts(x); kept(x); });
        all.add(x -> { x.commit(); counts(x); chunks(x); });
        all.add(x -> { x.commit(); ints(x); });
        all.add(x -> { x.sync(); counts(x); chunks(x); });
        all.add(x -> { x.sync(); blocks(x); });
        all.add(x -> { x.compact(64); counts(x); x.commit(); chunks(x); });
        for (int mask : new int[] {0, 65535, 21845, 43690}) {
            all.add(x -> { x.crash(0, mask); counts(x); blocks(x); });
            all.add(x -> { x.crash(0, mask); chunks(x); ints(x); });
        }
        return all;
    }

    private static void counts(Run x) {
        for (int what = 0; what < 10; what++) {
            x.count(what);
        }
    }

    private static void kept(Run x) {
        int many = (int) x.count(1).answer();
        for (int i = 0; i <= many; i++) {
            x.kept(i);
        }
    }

    private static int versionAt(Run x, int k) {
        return (int) x.kept(k).answer();
    }

    private static void chunks(Run x) {
        int many = (int) x.count(3).answer();
        for (int k = 0; k < many; k++) {
            for (int what = 0; what < 6; what++) {
                x.chunk(k, what);
            }
        }
    }

    private static void blocks(Run x) {
        for (int b = 0; b < 32; b++) {
            for (int what = 0; what < 4; what++) {
                x.block(b, what);
            }
        }
    }

    private static void ints(Run x) {
        for (int k = 0; k < 128; k++) {
            x.get(k / 32, k % 32);
        }
    }

    private static void oldInts(Run x, int which) {
        int version = versionAt(x, which);
        for (int k = 0; k < 128; k++) {
            x.at(version, k / 32, k % 32);
        }
    }

    /** Unpins each kept version more often than it can be pinned, the latest ones first. */
    private static void pins(Run x) {
        int many = (int) x.count(1).answer();
        int[] versions = new int[many];
        for (int i = 0; i < many; i++) {
            versions[i] = versionAt(x, i);
        }
        for (int i = many - 1; i >= 0; i--) {
            for (int often = 0; often < 10; often++) {
                x.unpin(versions[i]);
            }
        }
        kept(x);
    }
}
