import java.lang.reflect.InvocationTargetException;
import java.lang.reflect.Method;
import java.util.TreeMap;

/**
 * Long runs of calls, by a fixed row of numbers: each answer and each exception of StrataRepo must
 * be that of Model, and at the end of each run all that can be asked must be the same.
 */
public final class ModelTest {
    /** Each call with what its arguments are, and how often it comes (in runs of edits, when PENDING). */
    private static final String[] CALLS = {
        "create file 12 1", "delete file 3 1", "insert file place line 60 1", "erase file place 14 1",
        "replace file place line 30 1", "discard 2 1", "commit word 30 1", "branch branch 8 1", "go branch 14 1",
        "drop branch 3 1", "reset commit 4 1", "sweep 1 1", "merge branch 16 1", "carry commit 10 1",
        "takeBack commit 8 1", "replay branch 10 1", "settle conflict way 1 60", "goOn 1 14", "giveUp 1 4",
        "pending 1 1", "conflicts 1 2", "unsettled 1 2", "left 1 2", "conflictFile conflict 1 4",
        "pieceSize conflict side 1 8", "pieceLine conflict side place 1 8", "deskLines file 1 1",
        "deskLine file place 1 1", "isClean 1 1", "commits 1 1", "isThere commit 1 1", "isReached commit 1 1",
        "parent commit flag 1 1", "wordOf commit 1 1", "lines commit file 1 1", "lineAt commit file place 1 1",
        "head 1 1", "commitOf branch 1 1", "isAncestor commit commit 1 1", "base commit commit 2 1",
        "ahead commit commit 2 1", "touched commit commit 2 1", "added commit commit file 3 1",
        "pairOf commit commit file place 4 1", "blame commit file place 4 1", "depthOf commit 1 1",
        "seek commit commit 3 1", "probe 2 1", "tell flag 4 1", "culprit 2 1", "wouldMerge branch 3 1",
        "wouldConflict commit 3 1", "meanLines 1 1", "digest 2 1",
    };

    private static final TreeMap<String, Integer> SEEN = new TreeMap<>();

    private long seed;
    private int mostFiles;
    private int mostLines;
    private int wild;

    private ModelTest(long seed) {
        this.seed = seed * 2654435769L + 12345;
    }

    private int next(int bound) {
        seed = seed * 6364136223846793005L + 1442695040888963407L;
        return (int) ((seed >>> 33) % bound);
    }

    private int argument(String role, StrataRepo repo) {
        if (next(1000) < wild) {
            int[] odd = {-1, 8, 40, 41, 60, 999, 1000, Integer.MAX_VALUE, Integer.MIN_VALUE, -2, 3, 4};
            return odd[next(odd.length)];
        }
        switch (role) {
            case "file": return next(mostFiles);
            case "place": return next(12) == 0 ? next(41) : next(5);
            case "line": return next(mostLines);
            case "word": return next(1000);
            case "branch": return next(next(4) == 0 ? 8 : 4);
            case "commit": return repo.commits() == 0 ? 0 : next(3) == 0 ? next(repo.commits())
                    : Math.max(0, repo.commits() - 1 - next(8));
            case "conflict": return next(Math.max(1, repo.conflicts()));
            case "way": return next(4);
            case "side": return next(3);
            default: return next(2);
        }
    }

    private String pick(boolean isPending) {
        int all = 0;
        for (String call : CALLS) {
            all += weight(call, isPending);
        }
        int at = next(all);
        for (String call : CALLS) {
            at -= weight(call, isPending);
            if (at < 0) {
                return call;
            }
        }
        return CALLS[0];
    }

    private static int weight(String call, boolean isPending) {
        String[] words = call.split(" ");
        return Integer.parseInt(words[words.length - (isPending ? 1 : 2)]);
    }

    private static String answer(Object target, String name, Class<?>[] kinds, Object[] arguments) {
        try {
            Method method = target.getClass().getDeclaredMethod(name, kinds);
            return String.valueOf(method.invoke(target, arguments));
        } catch (InvocationTargetException e) {
            return e.getCause().getClass().getSimpleName();
        } catch (ReflectiveOperationException e) {
            throw new IllegalStateException(e);
        }
    }

    private boolean same(StrataRepo repo, Model model, StringBuilder run, String name, Object... arguments) {
        Class<?>[] kinds = new Class<?>[arguments.length];
        for (int n = 0; n < kinds.length; n++) {
            kinds[n] = arguments[n] instanceof Boolean ? boolean.class : int.class;
        }
        String got = answer(repo, name, kinds, arguments);
        String want = answer(model, name, kinds, arguments);
        String told = name + java.util.Arrays.toString(arguments) + " -> " + got;
        run.append(told).append('\n');
        String key = name + " " + (name.matches("merge|carry|takeBack|replay|goOn|wouldMerge|pending")
                || got.endsWith("Exception") ? got : "answers");
        SEEN.merge(key, 1, Integer::sum);
        if (got.equals(want)) {
            return true;
        }
        System.out.println(run);
        Check.say(0, told + ", due is " + want);
        return false;
    }

    private boolean step(StrataRepo repo, Model model, StringBuilder run) {
        String[] words = pick(repo.pending() != 0).split(" ");
        Object[] arguments = new Object[words.length - 3];
        for (int n = 0; n < arguments.length; n++) {
            int number = argument(words[n + 1], repo);
            if (words[n + 1].equals("flag")) {
                arguments[n] = number == 1;
            } else {
                arguments[n] = number;
            }
        }
        return same(repo, model, run, words[0], arguments);
    }

    /** A first commit with long files, so that merges have much to do. */
    private boolean fill(StrataRepo repo, Model model, StringBuilder run, int size) {
        boolean isFine = true;
        for (int file = 0; file < 2 && isFine; file++) {
            isFine = same(repo, model, run, "create", file);
            for (int place = 0; place < size && isFine; place++) {
                isFine = same(repo, model, run, "insert", file, place, next(mostLines));
            }
        }
        return isFine && same(repo, model, run, "commit", 1) && same(repo, model, run, "branch", 1);
    }

    /** Many commits on both branches, so that the run comes to where no more can be made. */
    private boolean crowd(StrataRepo repo, Model model, StringBuilder run) {
        boolean isFine = true;
        for (int n = 0; n < 50 && isFine; n++) {
            if (next(4) == 0) {
                isFine = same(repo, model, run, "go", next(2));
            }
            int size = repo.deskLines(0);
            if (size > 3 && next(2) == 0) {
                isFine = isFine && same(repo, model, run, "erase", 0, next(size));
            } else {
                isFine = isFine && same(repo, model, run, "insert", 0, next(size + 1), next(mostLines));
            }
            isFine = isFine && same(repo, model, run, "commit", n);
        }
        return isFine;
    }

    private boolean run(int kind) {
        mostFiles = kind % 3 == 0 ? 1 : kind % 3 == 1 ? 3 : 8;
        mostLines = kind % 4 == 0 ? 2 : kind % 4 == 1 ? 4 : kind % 4 == 2 ? 20 : 1000;
        wild = kind % 5 == 0 ? 100 : 10;
        StrataRepo repo = new StrataRepo();
        Model model = new Model();
        StringBuilder run = new StringBuilder();
        int[] sizes = {0, 6, 12, 20, 36, 40};
        if (!fill(repo, model, run, sizes[kind % 6])) {
            return false;
        }
        if (kind % 7 == 3 && !crowd(repo, model, run)) {
            return false;
        }
        for (int call = 0; call < 512; call++) {
            if (!step(repo, model, run)) {
                return false;
            }
            if (call % 4 == 0 && !same(repo, model, run, "digest")) {
                return false;
            }
        }
        SEEN.merge(repo.commits() == 60 ? "runs to 60 commits" : "runs", 1, Integer::sum);
        return askAll(repo, model, run);
    }

    private boolean askAll(StrataRepo repo, Model model, StringBuilder run) {
        boolean isFine = true;
        int made = repo.commits();
        for (int a = 0; a < made && isFine; a++) {
            for (int b = 0; b < made && isFine; b++) {
                isFine = same(repo, model, run, "isAncestor", a, b) && same(repo, model, run, "base", a, b)
                        && same(repo, model, run, "ahead", a, b) && same(repo, model, run, "touched", a, b);
            }
            for (int place = 0; place < 40 && isFine; place++) {
                isFine = same(repo, model, run, "blame", a, 0, place)
                        && same(repo, model, run, "pairOf", a, made - 1, 0, place);
            }
        }
        return isFine;
    }

    private static void needSeen(String... keys) {
        for (String key : keys) {
            Check.due(0, "runs with '" + key + "'", SEEN.getOrDefault(key, 0) > 0, true);
        }
    }

    public static void main(String[] arguments) {
        int runs = arguments.length > 0 ? Integer.parseInt(arguments[0]) : 150;
        int first = arguments.length > 1 ? Integer.parseInt(arguments[1]) : 0;
        for (int n = 0; n < runs; n++) {
            boolean isFine = new ModelTest(first + n).run(n);
            Check.due(0, "run " + n, isFine, true);
            if (!isFine) {
                break;
            }
        }
        needSeen("merge 0", "merge 1", "merge 2", "merge 3", "carry 0", "carry 2", "carry 3", "takeBack 0",
                "takeBack 2", "takeBack 3", "replay 0", "replay 1", "replay 2", "replay 3", "goOn 0", "goOn 1",
                "goOn 2", "goOn 3", "wouldMerge 0", "wouldMerge 1", "wouldMerge 2", "wouldMerge 3", "giveUp answers",
                "pending 1", "pending 2", "pending 3", "pending 4", "runs to 60 commits", "sweep answers", "tell answers");
        if (arguments.length > 0) {
            System.out.println(SEEN);
        }
        Check.end();
    }
}
