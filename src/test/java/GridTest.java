import java.lang.reflect.Method;
import java.util.ArrayList;
import java.util.Arrays;
import java.util.Comparator;
import java.util.List;

/**
 * Each call of the face, in each of some states, with each number at and beside a boundary for each
 * argument: answer, exception and what is then must be those of Model.
 */
public final class GridTest {
    private static final int MIN = Integer.MIN_VALUE;
    private static final int MAX = Integer.MAX_VALUE;
    private static final int MOST_CALLS = 512;

    private static final int[] FILES = {-1, 0, 1, 3, 7, 8, MIN, MAX};
    private static final int[] PLACES = {-1, 0, 1, 2, 3, 4, 39, 40, 41, MIN, MAX};
    private static final int[] LINES = {-1, 0, 999, 1000, MIN, MAX};
    private static final int[] BRANCHES = {-1, 0, 1, 2, 7, 8, MIN, MAX};
    private static final int[] COMMITS = {-1, 0, 1, 2, 3, 5, 6, 58, 59, 60, 63, 64, MIN, MAX};
    private static final int[] CONFLICTS = {-1, 0, 1, 2, 3, 4, MIN, MAX};
    private static final int[] WAYS = {-1, 0, 1, 2, 3, 4, MIN, MAX};
    private static final int[] SIDES = {-1, 0, 1, 2, 3, MIN, MAX};
    private static final int[] FLAGS = {0, 1};

    /** Calls that change something, and behind them those that only ask; with what their arguments are. */
    private static final String[] CHANGES = {
        "create file", "delete file", "insert file place line", "erase file place", "replace file place line",
        "discard", "commit word", "branch branch", "go branch", "drop branch", "reset commit", "sweep",
        "merge branch", "carry commit", "takeBack commit", "replay branch", "settle conflict way", "goOn", "giveUp",
        "seek commit commit", "tell flag",
    };
    private static final String[] ASKS = {
        "pending", "conflicts", "unsettled", "left", "conflictFile conflict", "pieceSize conflict side",
        "pieceLine conflict side place", "deskLines file", "deskLine file place", "isClean", "commits",
        "isThere commit", "isReached commit", "parent commit flag", "wordOf commit", "lines commit file",
        "lineAt commit file place", "head", "commitOf branch", "isAncestor commit commit", "base commit commit",
        "ahead commit commit", "touched commit commit", "added commit commit file",
        "pairOf commit commit file place", "blame commit file place", "depthOf commit", "probe", "culprit",
        "wouldMerge branch", "wouldConflict commit", "meanLines", "digest",
    };

    private static final String FORK = "create 0, insert 0 0 1, insert 0 1 2, insert 0 2 3, commit 10, branch 1, "
            + "replace 0 0 4, replace 0 2 5, commit 20, create 2, insert 2 0 30, commit 25, go 1, "
            + "replace 0 0 6, replace 0 2 7, commit 30, replace 0 0 8, replace 0 2 9, commit 40, "
            + "create 3, insert 3 0 50, commit 50, seek 0 5";
    private static final String WHOLE = "create 0, insert 0 0 1, create 3, insert 3 0 7, create 7, insert 7 0 8, commit 10, "
            + "branch 1, create 1, insert 1 0 11, replace 3 0 70, insert 3 1 71, delete 7, delete 0, commit 20, go 1, "
            + "create 1, insert 1 0 12, insert 1 1 13, delete 3, erase 7 0, insert 0 0 5, commit 30";
    private static final String SWEPT = chain(5) + ", reset 2, sweep, create 1, commit 5, seek 0 5";
    private static final String FULL = chain(58) + ", branch 1, replace 0 0 900, commit 58, go 1, replace 0 0 901, commit 59";
    private static final String ALMOST = chain(57) + ", branch 1, replace 0 0 900, commit 57, go 1, replace 0 0 901, commit 58";

    private static final String[] STATES = {
        "", "create 0, insert 0 0 5, create 7", "create 0, commit 0", FORK, FORK + ", insert 0 3 77, create 7",
        FORK + ", merge 0", FORK + ", merge 0, settle 0 2, settle 1 3", FORK + ", carry 1, settle 1 1",
        FORK + ", takeBack 3, settle 0 0", FORK + ", replay 0, settle 1 2", FORK + ", replay 0, settle 0 3, settle 1 3",
        FORK + ", reset 0, go 0, reset 1, go 1", FORK + ", reset 0, sweep", FORK + ", drop 0, branch 7, go 7, drop 1",
        WHOLE, WHOLE + ", merge 0", WHOLE + ", merge 0, settle 0 2, settle 1 2, settle 2 2, settle 3 2",
        WHOLE + ", wouldMerge 0, seek 0 2", SWEPT, SWEPT + ", create 7", FULL, FULL + ", create 7", ALMOST,
        ALMOST + ", create 7", ALMOST + ", merge 0, settle 0 2", ALMOST + ", replay 0, settle 0 1",
        forty(0) + ", " + forty(7) + ", commit 5, erase 0 39, commit 6, erase 7 0",
        "create 0, commit 0, branch 1, branch 2, branch 3, branch 4, branch 5, branch 6, branch 7",
    };

    private final String[] calls;
    private StrataRepo repo;
    private Model model;
    private int used;

    private GridTest(String state) {
        calls = state.isEmpty() ? new String[0] : state.split(", ");
        make();
    }

    private static String chain(int size) {
        StringBuilder text = new StringBuilder("create 0, insert 0 0 0, commit 0");
        for (int n = 1; n < size; n++) {
            text.append(", replace 0 0 ").append(n).append(", commit ").append(n);
        }
        return text.toString();
    }

    private static String forty(int file) {
        StringBuilder text = new StringBuilder("create " + file);
        for (int n = 0; n < 40; n++) {
            text.append(", insert ").append(file).append(' ').append(n).append(' ').append(100 + n);
        }
        return text.toString();
    }

    private void make() {
        repo = new StrataRepo();
        model = new Model();
        used = calls.length;
        for (String call : calls) {
            String[] words = call.split(" ");
            int[] numbers = new int[words.length - 1];
            for (int n = 0; n < numbers.length; n++) {
                numbers[n] = Integer.parseInt(words[n + 1]);
            }
            String want = Faces.answer(model, words[0], numbers);
            Check.due(0, call + " (to begin with)", Faces.answer(repo, words[0], numbers), want);
            Check.due(0, call + " throws nothing (to begin with)", want.endsWith("Exception"), false);
        }
    }

    private static int[] numbers(String role) {
        switch (role) {
            case "file": return FILES;
            case "place": return PLACES;
            case "line": case "word": return LINES;
            case "branch": return BRANCHES;
            case "commit": return COMMITS;
            case "conflict": return CONFLICTS;
            case "way": return WAYS;
            case "side": return SIDES;
            default: return FLAGS;
        }
    }

    /** All rows of numbers for the arguments of a call. */
    private static List<int[]> rows(String[] words) {
        List<int[]> rows = new ArrayList<>();
        rows.add(new int[0]);
        for (int n = 1; n < words.length; n++) {
            List<int[]> longer = new ArrayList<>();
            for (int[] row : rows) {
                for (int number : numbers(words[n])) {
                    int[] next = Arrays.copyOf(row, row.length + 1);
                    next[row.length] = number;
                    longer.add(next);
                }
            }
            rows = longer;
        }
        return rows;
    }

    /** A call that changed nothing leaves the objects for the next one. */
    private void call(String state, String name, int[] row, boolean isChange) {
        if (used > MOST_CALLS - 2) {
            make();
        }
        String want = Faces.answer(model, name, row);
        String what = "'" + state + "', then " + name + Arrays.toString(row);
        Check.due(0, what, Faces.answer(repo, name, row), want);
        used++;
        if (isChange) {
            Check.due(0, what + ", then digest()", repo.digest(), model.digest());
            used++;
            if (!want.endsWith("Exception")) {
                make();
            }
        }
    }

    private void all(String state) {
        for (String call : CHANGES) {
            String[] words = call.split(" ");
            for (int[] row : rows(words)) {
                call(state, words[0], row, true);
            }
        }
        for (String call : ASKS) {
            String[] words = call.split(" ");
            for (int[] row : rows(words)) {
                call(state, words[0], row, false);
            }
        }
        Check.due(0, "'" + state + "', asked all, then digest()", repo.digest(), model.digest());
    }

    private static void allOfTheFace() {
        List<String> names = new ArrayList<>();
        for (String[] calls : new String[][] {CHANGES, ASKS}) {
            for (String call : calls) {
                names.add(call.split(" ")[0]);
            }
        }
        Method[] methods = StrataRepo.class.getDeclaredMethods();
        Arrays.sort(methods, Comparator.comparing(Method::getName));
        for (Method method : methods) {
            if (java.lang.reflect.Modifier.isPublic(method.getModifiers())) {
                Check.due(0, method.getName() + " is called", names.contains(method.getName()), true);
            }
        }
    }

    public static void main(String[] arguments) {
        allOfTheFace();
        for (String state : STATES) {
            boolean isLong = state.length() > 400;
            String told = isLong ? state.substring(0, 20) + " .. " + state.substring(state.length() - 80) : state;
            new GridTest(state).all(told);
        }
        Check.end();
    }
}
