import java.util.Random;
import java.util.TreeMap;

/**
 * Promises 1 to 18: runs with fixed seeds, every answer against the model. Each run first changes
 * things, then spends what is left of the calls for which the document speaks on asking.
 */
public final class ModelTest {
    private static final int RUNS = 3000;
    private static final int CALLS = 512;
    private static final String[] NAMES = {"put", "remove", "next", "commit", "rollback", "pin", "unpin", "hold",
        "sync", "compact", "crash", "get", "at"};
    /** How often each call comes, one row for each kind of run. */
    private static final int[][] WEIGHTS = {
        {20, 6, 1, 10, 2, 2, 2, 1, 4, 3, 2, 1, 1},
        {20, 6, 1, 12, 1, 1, 1, 1, 2, 4, 8, 1, 1},
        {30, 2, 1, 10, 1, 8, 3, 2, 2, 2, 0, 1, 1},
        {10, 4, 1, 8, 6, 3, 3, 2, 3, 2, 3, 1, 1},
        {6, 3, 1, 12, 1, 1, 1, 1, 3, 14, 1, 1, 1},
        {40, 30, 1, 10, 1, 1, 1, 1, 4, 2, 3, 1, 1}};

    private static final TreeMap<String, Integer> SEEN = new TreeMap<>();

    private final VersionMaps real = new VersionMaps();
    private final Model model = new Model();
    private final Random random;
    private final int run;
    private int wrong = 0;

    private ModelTest(int run) {
        this.run = run;
        // the first numbers of seeds that lie close together are much alike
        this.random = new Random(run * 0x9E3779B97F4A7C15L);
    }

    public static void main(String[] args) {
        int wrong = 0;
        for (int run = 0; run < RUNS && wrong == 0; run++) {
            ModelTest test = new ModelTest(run);
            test.go();
            wrong += test.wrong;
        }
        String[] mustBeSeen = {"commit FULL", "rollback FULL", "pin FULL", "compact 0", "compact -3",
            "crash to 0", "crash to more", "broken chunk used", "sync 0"};
        for (String rare : mustBeSeen) {
            if (!SEEN.containsKey(rare)) {
                wrong++;
                System.out.println("no run came to: " + rare);
            }
        }
        System.out.println(RUNS + " runs against the model, wrong: " + wrong + ", seen: " + SEEN);
        if (wrong != 0) {
            System.exit(1);
        }
    }

    private static void seen(String what) {
        SEEN.merge(what, 1, Integer::sum);
    }

    private void due(int call, String what, long got, long want) {
        if (got != want && wrong < 20) {
            wrong++;
            System.out.println("run " + run + ", call " + call + ": " + what + " answered " + got + ", due is " + want);
        }
    }

    private void go() {
        int[] weights = WEIGHTS[run % WEIGHTS.length];
        int sum = 0;
        for (int w : weights) {
            sum += w;
        }
        int changes = random.nextInt(4) == 0 ? CALLS - random.nextInt(64) : 1 + random.nextInt(300);
        for (int call = 1; call <= changes && wrong == 0; call++) {
            int pick = random.nextInt(sum);
            int which = 0;
            while (pick >= weights[which]) {
                pick -= weights[which++];
            }
            ask(call, NAMES[which]);
        }
        for (int call = changes + 1; call <= CALLS && wrong == 0; call++) {
            question(call);
        }
    }

    /** Mostly from..to, now and then beside it or far off. */
    private int some(int from, int to) {
        int dice = random.nextInt(60);
        if (dice == 0) {
            return from - 1;
        }
        if (dice == 1) {
            return to + 1;
        }
        if (dice == 2) {
            return random.nextInt();
        }
        return from + random.nextInt(to - from + 1);
    }

    private int someVersion() {
        return random.nextInt(4) == 0 ? some(0, model.count(0) + 1) : model.kept(random.nextInt(model.count(1)));
    }

    private void ask(int call, String name) {
        int m = some(0, 3);
        int k = some(0, 31);
        int version = someVersion();
        switch (name) {
            case "put" -> {
                int v = random.nextInt(4) == 0 ? random.nextInt() : random.nextInt(3);
                due(call, "put(" + m + ", " + k + ", " + v + ")", real.put(m, k, v), model.put(m, k, v));
            }
            case "remove" -> {
                int key = random.nextInt(4) == 0 ? k : model.next(m, k);
                due(call, "remove(" + m + ", " + key + ")", real.remove(m, key), model.remove(m, key));
            }
            case "next" -> due(call, "next(" + m + ", " + k + ")", real.next(m, k), model.next(m, k));
            case "commit" -> {
                int want = model.commit();
                due(call, "commit()", real.commit(), want);
                seen("commit " + (want == Model.FULL ? "FULL" : "done"));
            }
            case "rollback" -> {
                int want = model.rollback(version);
                due(call, "rollback(" + version + ")", real.rollback(version), want);
                seen("rollback " + (want == Model.FULL ? "FULL" : want == Model.NONE ? "NONE" : "done"));
            }
            case "pin" -> {
                int target = random.nextInt(3) == 0 ? model.count(0) : version;
                int want = model.pin(target);
                due(call, "pin(" + target + ")", real.pin(target), want);
                seen("pin " + (want == Model.FULL ? "FULL" : want == Model.NONE ? "NONE" : "done"));
            }
            case "unpin" -> due(call, "unpin(" + version + ")", real.unpin(version), model.unpin(version));
            case "hold" -> {
                int n = some(0, 4);
                due(call, "hold(" + n + ")", real.hold(n), model.hold(n));
            }
            case "sync" -> {
                int want = model.sync();
                due(call, "sync()", real.sync(), want);
                seen("sync " + (want == 0 ? "0" : "more"));
            }
            case "compact" -> {
                int n = random.nextInt(3) == 0 ? some(1, 64) : 64;
                int want = model.compact(n);
                due(call, "compact(" + n + ")", real.compact(n), want);
                seen("compact " + Math.min(want, 1));
            }
            case "crash" -> crash(call);
            case "get" -> due(call, "get(" + m + ", " + k + ")", real.get(m, k), model.get(m, k));
            default -> due(call, "at(" + version + ", " + m + ", " + k + ")", real.at(version, m, k),
                model.at(version, m, k));
        }
    }

    private void crash(int call) {
        int k = some(0, model.count(5));
        int mask = some(0, 65535);
        if (random.nextInt(2) == 0) {
            k = Math.min(k, random.nextInt(3));
            mask = 65535 & ~(1 << random.nextInt(16));
        }
        int broken = model.brokenButUsed;
        int want = model.crash(k, mask);
        due(call, "crash(" + k + ", " + mask + ")", real.crash(k, mask), want);
        seen(want == Model.REFUSED ? "crash REFUSED" : want == 0 ? "crash to 0" : "crash to more");
        if (model.brokenButUsed > broken) {
            seen("broken chunk used");
        }
    }

    private void question(int call) {
        switch (random.nextInt(7)) {
            case 0 -> {
                int what = some(0, 9);
                due(call, "count(" + what + ")", real.count(what), model.count(what));
            }
            case 1 -> {
                int k = some(0, model.count(1) - 1);
                due(call, "kept(" + k + ")", real.kept(k), model.kept(k));
            }
            case 2 -> {
                int k = some(0, Math.max(model.count(3) - 1, 0));
                int what = some(0, 5);
                due(call, "chunk(" + k + ", " + what + ")", real.chunk(k, what), model.chunk(k, what));
            }
            case 3, 4 -> {
                int b = some(0, 31);
                int what = some(0, 3);
                due(call, "block(" + b + ", " + what + ")", real.block(b, what), model.block(b, what));
            }
            case 5 -> ask(call, "get");
            default -> ask(call, "at");
        }
    }
}
