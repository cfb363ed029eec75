import java.util.ArrayList;
import java.util.Arrays;
import java.util.List;
import java.util.Set;
import java.util.TreeMap;

/**
 * Runs of the 512 calls that an object has, by a fixed row of numbers: each answer and each
 * exception of StrataRepo must be that of Model. At the end of each run objects are made again, by
 * the calls that changed something, and asked as often as they have calls left.
 */
public final class ModelTest {
    /** Each call with what its arguments are, and how often it comes (in runs of edits, when PENDING). */
    private static final String[] CALLS = {
        "create file 12 1", "delete file 3 1", "insert file place line 60 1", "erase file place 14 1",
        "replace file place line 30 1", "discard 2 1", "commit word 30 1", "branch branch 8 1", "go branch 14 1",
        "drop branch 3 1", "reset commit 4 1", "sweep 1 1", "merge branch 16 1", "carry commit 10 1",
        "takeBack commit 8 1", "replay branch 10 1", "settle conflict way 1 60", "goOn 1 14", "giveUp 1 4",
        "pending 1 1", "conflicts 1 2", "unsettled 1 2", "left 1 2", "conflictFile conflict 1 4",
        "pieceSize conflict side 1 8", "pieceLine conflict side place 1 8", "deskLines file 1 1",
        "deskLine file place 1 1", "isClean 1 1", "commits 1 1", "isThere commit 1 1", "isReached commit 1 1",
        "parent commit flag 1 1", "wordOf commit 1 1", "lines commit file 1 1", "lineAt commit file place 1 1",
        "head 1 1", "commitOf branch 1 1", "isAncestor commit commit 1 1", "base commit commit 2 1",
        "ahead commit commit 2 1", "touched commit commit 2 1", "added commit commit file 3 1",
        "pairOf commit commit file place 4 1", "blame commit file place 4 1", "depthOf commit 1 1",
        "seek commit commit 3 1", "probe 2 1", "tell flag 4 1", "culprit 2 1", "wouldMerge branch 3 1",
        "wouldConflict commit 3 1", "meanLines 1 1", "digest 2 1",
    };

    private static final TreeMap<String, Integer> SEEN = new TreeMap<>();

    /** The calls that change something, when they are not refused. */
    private static final Set<String> CHANGES = Set.of("create", "delete", "insert", "erase", "replace", "discard",
            "commit", "branch", "go", "drop", "reset", "sweep", "merge", "carry", "takeBack", "replay", "settle",
            "goOn", "giveUp", "seek", "tell");
    private static final int MOST_CALLS = 512;
    /** More than a fork takes, with the checksum behind it. */
    private static final int MOST_OF_FORK = 16;

    private StrataRepo repo = new StrataRepo();
    private final Model model = new Model();
    private final StringBuilder run = new StringBuilder();
    private final List<Runnable> script = new ArrayList<>();
    private int calls = 0;
    private long seed;
    private int mostFiles;
    private int mostLines;
    private int wild;

    private ModelTest(long seed) {
        this.seed = seed * 2654435769L + 12345;
    }

    private int next(int bound) {
        seed = seed * 6364136223846793005L + 1442695040888963407L;
        return (int) ((seed >>> 33) % bound);
    }

    private int argument(String role) {
        if (next(1000) < wild) {
            int[] odd = {-1, 8, 40, 41, 60, 999, 1000, Integer.MAX_VALUE, Integer.MIN_VALUE, -2, 3, 4};
            return odd[next(odd.length)];
        }
        switch (role) {
            case "file": return next(mostFiles);
            case "place": return next(12) == 0 ? next(41) : next(5);
            case "line": return next(mostLines);
            case "word": return next(1000);
            case "branch": return next(next(4) == 0 ? 8 : 4);
            case "commit": return model.commits() == 0 ? 0 : next(3) == 0 ? next(model.commits())
                    : Math.max(0, model.commits() - 1 - next(8));
            case "kept": return kept();
            case "conflict": return next(Math.max(1, model.conflicts()));
            case "way": return next(4);
            case "side": return next(3);
            default: return next(2);
        }
    }

    /** A commit that is not GONE, if a few tries find one. */
    private int kept() {
        int commit = 0;
        for (int n = 0; n < 8; n++) {
            commit = next(Math.max(1, model.commits()));
            if (model.isThere(commit)) {
                break;
            }
        }
        return commit;
    }

    private String pick(boolean isPending) {
        int all = 0;
        for (String call : CALLS) {
            all += weight(call, isPending);
        }
        int at = next(all);
        for (String call : CALLS) {
            at -= weight(call, isPending);
            if (at < 0) {
                return call;
            }
        }
        return CALLS[0];
    }

    private static int weight(String call, boolean isPending) {
        String[] words = call.split(" ");
        return Integer.parseInt(words[words.length - (isPending ? 1 : 2)]);
    }

    /** Whether a call answers as the model; a call that changed something is kept for what is made again. */
    private boolean same(String name, int... arguments) {
        String got = Faces.answer(repo, name, arguments);
        String want = Faces.answer(model, name, arguments);
        calls++;
        String told = name + Arrays.toString(arguments) + " -> " + got;
        run.append(told).append('\n');
        boolean isRefused = got.endsWith("Exception");
        if (CHANGES.contains(name) && !isRefused) {
            script.add(() -> Faces.answer(repo, name, arguments));
        }
        String key = name + " " + (name.matches("merge|carry|takeBack|replay|goOn|wouldMerge|pending")
                || isRefused ? got : "answers");
        SEEN.merge(key, 1, Integer::sum);
        if (got.equals(want)) {
            return true;
        }
        System.out.println(run);
        Check.say(0, told + ", due is " + want);
        return false;
    }

    /** What is asked to choose a call is asked of the model: the object has 512 calls. */
    private boolean step() {
        String[] words = pick(model.pending() != 0).split(" ");
        int[] arguments = new int[words.length - 3];
        for (int n = 0; n < arguments.length; n++) {
            arguments[n] = argument(words[n + 1]);
        }
        return same(words[0], arguments);
    }

    /** A first commit with long files, so that merges have much to do. */
    private boolean fill(int size) {
        boolean isFine = true;
        for (int file = 0; file < 2 && isFine; file++) {
            isFine = same("create", file);
            for (int place = 0; place < size && isFine; place++) {
                isFine = same("insert", file, place, next(mostLines));
            }
        }
        return isFine && same("commit", 1) && same("branch", 1);
    }

    /** Many commits on both branches, so that the run comes to where no more can be made. */
    private boolean crowd() {
        boolean isFine = true;
        for (int n = 0; n < 50 && isFine; n++) {
            if (next(4) == 0) {
                isFine = same("go", next(2));
            }
            int size = model.deskLines(0);
            if (size > 3 && next(2) == 0) {
                isFine = isFine && same("erase", 0, next(size));
            } else {
                isFine = isFine && same("insert", 0, next(size + 1), next(mostLines));
            }
            isFine = isFine && same("commit", n);
        }
        return isFine;
    }

    /** A commit on each of two branches, and then WORK that has to do with both. */
    private boolean fork() {
        int one = next(4);
        int other = next(4);
        boolean isFine = same("go", one) && edit() && edit() && same("commit", next(1000))
                && same("go", other) && edit() && edit() && same("commit", next(1000));
        switch (next(4)) {
            case 0: return isFine && same("carry", argument("commit"));
            case 1: return isFine && same("replay", one);
            default: return isFine && same("merge", one);
        }
    }

    private boolean edit() {
        int file = next(mostFiles);
        int size = model.deskLines(file);
        if (size < 0) {
            return same("create", file) && same("insert", file, 0, next(mostLines));
        }
        switch (next(12)) {
            case 0: return same("delete", file);
            case 1: case 2: case 3: return same("erase", file, next(size + 1));
            case 4: case 5: case 6: case 7: return same("replace", file, next(size + 1), next(mostLines));
            default: return same("insert", file, next(size + 1), next(mostLines));
        }
    }

    private boolean run(int kind) {
        mostFiles = kind % 3 == 0 ? 1 : kind % 3 == 1 ? 3 : 8;
        mostLines = kind % 4 == 0 ? 2 : kind % 4 == 1 ? 4 : kind % 4 == 2 ? 20 : 1000;
        wild = kind % 5 == 0 ? 100 : 10;
        int[] sizes = {0, 6, 12, 20, 36, 40};
        if (!fill(sizes[kind % 6])) {
            return false;
        }
        if (kind % 7 == 3 && !crowd()) {
            return false;
        }
        while (calls < MOST_CALLS - MOST_OF_FORK) {
            boolean isFine = next(12) == 0 && model.pending() == 0 ? fork() : step();
            if (!isFine || next(5) == 0 && !same("digest")) {
                return false;
            }
        }
        SEEN.merge(model.commits() == 60 ? "runs to 60 commits" : "runs", 1, Integer::sum);
        return same("digest") && askMore();
    }

    /** Asks of an object that is made again, as often as it has calls left, and of another one behind that. */
    private boolean askMore() {
        List<Runnable> changes = List.copyOf(script);
        for (int round = 0; round < 5; round++) {
            repo = new StrataRepo();
            for (Runnable change : changes) {
                change.run();
            }
            calls = changes.size();
            while (calls < MOST_CALLS) {
                if (!question()) {
                    return false;
                }
            }
        }
        return true;
    }

    private boolean question() {
        int a = argument("kept");
        int b = argument("kept");
        int file = next(mostFiles);
        int size = model.isThere(a) ? Math.max(0, model.lines(a, file)) : 0;
        switch (next(6)) {
            case 0: return same("isAncestor", a, b);
            case 1: return same("base", a, b);
            case 2: return same("ahead", a, b);
            case 3: return same("touched", a, b);
            case 4: return same("blame", a, file, next(size + 1));
            default: return same("pairOf", a, b, file, next(size + 1));
        }
    }

    private static void needSeen(String... keys) {
        for (String key : keys) {
            Check.due(0, "runs with '" + key + "'", SEEN.getOrDefault(key, 0) > 0, true);
        }
    }

    public static void main(String[] arguments) {
        int runs = arguments.length > 0 ? Integer.parseInt(arguments[0]) : 300;
        int first = arguments.length > 1 ? Integer.parseInt(arguments[1]) : 0;
        for (int n = 0; n < runs; n++) {
            boolean isFine = new ModelTest(first + n).run(n);
            Check.due(0, "run " + n, isFine, true);
            if (!isFine) {
                break;
            }
        }
        needSeen("merge 0", "merge 1", "merge 2", "merge 3", "carry 0", "carry 2", "carry 3", "takeBack 0",
                "takeBack 2", "takeBack 3", "replay 0", "replay 1", "replay 2", "replay 3", "goOn 0", "goOn 1",
                "goOn 2", "goOn 3", "wouldMerge 0", "wouldMerge 1", "wouldMerge 2", "wouldMerge 3", "giveUp answers",
                "pending 1", "pending 2", "pending 3", "pending 4", "runs to 60 commits", "sweep answers", "tell answers");
        if (arguments.length > 0) {
            System.out.println(SEEN);
        }
        Check.end();
    }
}
