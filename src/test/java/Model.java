import java.util.ArrayList;
import java.util.List;
import java.util.Map;
import java.util.Set;
import java.util.TreeMap;
import java.util.TreeSet;

/**
 * The document once more, told word by word with the lists and sets of the Java library: slow, and
 * with nothing in common with StrataRepo but the names of the calls.
 */
final class Model {
    static final class Tree extends TreeMap<Integer, List<Integer>> {
        private static final long serialVersionUID = 1L;

        Tree() {
        }

        Tree(Tree other) {
            for (Map.Entry<Integer, List<Integer>> e : other.entrySet()) {
                put(e.getKey(), new ArrayList<>(e.getValue()));
            }
        }
    }

    static final class Commit {
        Tree tree;
        int word;
        int first = -1;
        int second = -1;
        boolean gone;
    }

    /** A part of a merged file: lines that stand, or a conflict. A null row is a file not there. */
    static final class Part {
        int file;
        List<Integer> stands;
        List<Integer> ours;
        List<Integer> theirs;
        List<Integer> base;
        int way = -1;
        boolean whole;

        List<Integer> side(int side) {
            return side == 0 ? ours : side == 1 ? theirs : base;
        }
    }

    static final class Merged {
        final List<Part> parts = new ArrayList<>();
        final Set<Integer> files = new TreeSet<>();

        List<Part> conflicts() {
            List<Part> found = new ArrayList<>();
            for (Part part : parts) {
                if (part.stands == null) {
                    found.add(part);
                }
            }
            return found;
        }

        int open() {
            int count = 0;
            for (Part part : conflicts()) {
                if (part.way < 0) {
                    count++;
                }
            }
            return count;
        }

        Tree result() {
            Tree tree = new Tree();
            for (int file : files) {
                tree.put(file, new ArrayList<>());
            }
            for (Part part : parts) {
                List<Integer> row = settled(part);
                if (row != null) {
                    tree.computeIfAbsent(part.file, f -> new ArrayList<>()).addAll(row);
                }
            }
            for (List<Integer> row : tree.values()) {
                while (row.size() > 40) {
                    row.remove(40);
                }
            }
            return tree;
        }

        private static List<Integer> settled(Part part) {
            if (part.stands != null) {
                return part.stands;
            }
            if (part.way == 0) {
                return part.ours;
            }
            if (part.way == 1) {
                return part.theirs;
            }
            if (part.way == 3) {
                return part.base;
            }
            if (part.whole) {
                return part.ours == null ? part.theirs : part.ours;
            }
            List<Integer> both = new ArrayList<>(part.ours);
            both.addAll(part.theirs);
            return both;
        }
    }

    private Tree desk = new Tree();
    private final List<Commit> made = new ArrayList<>();
    private final TreeMap<Integer, Integer> branches = new TreeMap<>();
    private int head = 0;
    private int kind = 0;
    private int startedAt;
    private int source;
    private List<Integer> queue = new ArrayList<>();
    private boolean anyMade;
    private Merged merged;
    private TreeSet<Integer> suspects;

    Model() {
        branches.put(0, -1);
    }

    // ---- what is needed

    private static void index(boolean isFine) {
        if (!isFine) {
            throw new IndexOutOfBoundsException();
        }
    }

    private static void argument(boolean isFine) {
        if (!isFine) {
            throw new IllegalArgumentException();
        }
    }

    private static void state(boolean isFine) {
        if (!isFine) {
            throw new IllegalStateException();
        }
    }

    private static boolean isFile(int file) {
        return file >= 0 && file <= 7;
    }

    private static boolean isNumber(int number) {
        return number >= 0 && number <= 999;
    }

    private Tree headTree() {
        int at = branches.get(head);
        return at < 0 ? new Tree() : made.get(at).tree;
    }

    private Tree firstParentTree(int commit) {
        int first = made.get(commit).first;
        return first < 0 ? new Tree() : made.get(first).tree;
    }

    // ---- the desk

    public int create(int file) {
        index(isFile(file));
        state(!desk.containsKey(file) && kind == 0);
        desk.put(file, new ArrayList<>());
        return desk.size();
    }

    public int delete(int file) {
        index(isFile(file));
        state(desk.containsKey(file) && kind == 0);
        return desk.remove(file).size();
    }

    public int insert(int file, int place, int line) {
        index(isFile(file));
        argument(isNumber(line));
        state(kind == 0);
        List<Integer> row = desk.get(file);
        state(row != null && row.size() < 40 && place >= 0 && place <= row.size());
        row.add(place, line);
        return row.size();
    }

    public int erase(int file, int place) {
        index(isFile(file));
        state(kind == 0);
        List<Integer> row = desk.get(file);
        state(row != null && place >= 0 && place < row.size());
        return row.remove(place);
    }

    public int replace(int file, int place, int line) {
        index(isFile(file));
        argument(isNumber(line));
        state(kind == 0);
        List<Integer> row = desk.get(file);
        state(row != null && place >= 0 && place < row.size());
        return row.set(place, line);
    }

    public int discard() {
        state(kind == 0);
        int count = differing(desk, headTree());
        desk = new Tree(headTree());
        return count;
    }

    private static int differing(Tree a, Tree b) {
        int count = 0;
        for (int file = 0; file <= 7; file++) {
            List<Integer> x = a.get(file);
            List<Integer> y = b.get(file);
            if (x == null ? y != null : !x.equals(y)) {
                count++;
            }
        }
        return count;
    }

    // ---- commits and branches

    private int add(Tree tree, int word, int first, int second) {
        Commit commit = new Commit();
        commit.tree = new Tree(tree);
        commit.word = word;
        commit.first = first;
        commit.second = second;
        made.add(commit);
        return made.size() - 1;
    }

    public int commit(int word) {
        argument(isNumber(word));
        state(!isClean() && made.size() < 60 && kind == 0);
        int number = add(desk, word, branches.get(head), -1);
        branches.put(head, number);
        return number;
    }

    public int branch(int branch) {
        argument(branch >= 0 && branch <= 7);
        state(!branches.containsKey(branch) && branches.get(head) >= 0 && kind == 0);
        branches.put(branch, branches.get(head));
        return branches.size();
    }

    public int go(int branch) {
        index(branches.containsKey(branch));
        state(isClean() && kind == 0);
        int before = head;
        head = branch;
        desk = new Tree(headTree());
        return before;
    }

    public int drop(int branch) {
        index(branches.containsKey(branch));
        state(branch != head && kind == 0);
        Set<Integer> before = reached();
        branches.remove(branch);
        before.removeAll(reached());
        return before.size();
    }

    public int reset(int commit) {
        index(isThere(commit));
        state(kind == 0);
        int before = branches.get(head);
        move(commit);
        return before;
    }

    private void move(int commit) {
        branches.put(head, commit);
        desk = new Tree(headTree());
    }

    public int sweep() {
        state(kind == 0);
        suspects = null;
        Set<Integer> reached = reached();
        int count = 0;
        for (int c = 0; c < made.size(); c++) {
            if (!made.get(c).gone && !reached.contains(c)) {
                made.get(c).gone = true;
                count++;
            }
        }
        return count;
    }

    private Set<Integer> ancestors(int commit) {
        Set<Integer> found = new TreeSet<>();
        List<Integer> todo = new ArrayList<>();
        todo.add(commit);
        while (!todo.isEmpty()) {
            int c = todo.remove(todo.size() - 1);
            if (c >= 0 && found.add(c)) {
                todo.add(made.get(c).first);
                todo.add(made.get(c).second);
            }
        }
        return found;
    }

    private Set<Integer> reached() {
        Set<Integer> found = new TreeSet<>();
        for (int at : branches.values()) {
            found.addAll(ancestors(at));
        }
        return found;
    }

    // ---- the match and the merge

    /** For each place of a: the place in b, or -1. */
    private static int[] match(List<Integer> a, List<Integer> b) {
        int[][] known = new int[a.size() + 1][b.size() + 1];
        for (int[] row : known) {
            java.util.Arrays.fill(row, -1);
        }
        int[] pairs = new int[a.size()];
        java.util.Arrays.fill(pairs, -1);
        int i = 0;
        int k = 0;
        while (i < a.size() && k < b.size()) {
            if (a.get(i).equals(b.get(k))) {
                pairs[i++] = k++;
            } else if (longest(a, b, i + 1, k, known) >= longest(a, b, i, k + 1, known)) {
                i++;
            } else {
                k++;
            }
        }
        return pairs;
    }

    private static int longest(List<Integer> a, List<Integer> b, int i, int k, int[][] known) {
        if (i >= a.size() || k >= b.size()) {
            return 0;
        }
        if (known[i][k] < 0) {
            int best = Math.max(longest(a, b, i + 1, k, known), longest(a, b, i, k + 1, known));
            if (a.get(i).equals(b.get(k))) {
                best = Math.max(best, 1 + longest(a, b, i + 1, k + 1, known));
            }
            known[i][k] = best;
        }
        return known[i][k];
    }

    private static Merged mergeTrees(Tree base, Tree ours, Tree theirs) {
        Merged merged = new Merged();
        for (int file = 0; file <= 7; file++) {
            List<Integer> b = base.get(file);
            List<Integer> o = ours.get(file);
            List<Integer> t = theirs.get(file);
            if (o != null && t != null) {
                merged.files.add(file);
                mergeRows(merged, file, b == null ? new ArrayList<>() : b, o, t);
            } else if (b == null) {
                List<Integer> has = o != null ? o : t;
                if (has != null) {
                    merged.files.add(file);
                    merged.parts.add(standing(file, has));
                }
            } else if (o != null || t != null) {
                if (!b.equals(o != null ? o : t)) {
                    Part part = new Part();
                    part.file = file;
                    part.whole = true;
                    part.base = b;
                    part.ours = o;
                    part.theirs = t;
                    merged.parts.add(part);
                }
            }
        }
        return merged;
    }

    private static Part standing(int file, List<Integer> rows) {
        Part part = new Part();
        part.file = file;
        part.stands = rows;
        return part;
    }

    private static void mergeRows(Merged merged, int file, List<Integer> b, List<Integer> o, List<Integer> t) {
        int[] inOurs = match(b, o);
        int[] inTheirs = match(b, t);
        List<Integer> held = new ArrayList<>();
        for (int i = 0; i < b.size(); i++) {
            if (inOurs[i] >= 0 && inTheirs[i] >= 0) {
                held.add(i);
            }
        }
        for (int n = 0; n <= held.size(); n++) {
            int before = n == 0 ? -1 : held.get(n - 1);
            int behind = n == held.size() ? -1 : held.get(n);
            Part part = new Part();
            part.file = file;
            part.base = b.subList(before + 1, behind < 0 ? b.size() : behind);
            part.ours = o.subList(before < 0 ? 0 : inOurs[before] + 1, behind < 0 ? o.size() : inOurs[behind]);
            part.theirs = t.subList(before < 0 ? 0 : inTheirs[before] + 1, behind < 0 ? t.size() : inTheirs[behind]);
            if (part.ours.equals(part.base)) {
                part.stands = part.theirs;
            } else if (part.theirs.equals(part.base)) {
                part.stands = part.ours;
            } else if (part.ours.equals(part.theirs)) {
                part.stands = part.ours;
            }
            merged.parts.add(part);
            if (behind >= 0) {
                merged.parts.add(standing(file, b.subList(behind, behind + 1)));
            }
        }
    }

    // ---- work

    private boolean isReady() {
        return branches.get(head) >= 0 && isClean() && kind == 0;
    }

    private int tryMerge(int x) {
        int h = branches.get(head);
        if (ancestors(h).contains(x)) {
            return 0;
        }
        if (ancestors(x).contains(h)) {
            return 1;
        }
        int base = baseOf(h, x);
        merged = mergeTrees(base < 0 ? new Tree() : made.get(base).tree, made.get(h).tree, made.get(x).tree);
        return merged.conflicts().isEmpty() ? 2 : 3;
    }

    private void wait(int newKind, int newSource) {
        kind = newKind;
        source = newSource;
    }

    public int merge(int branch) {
        index(branches.containsKey(branch));
        state(isReady() && branches.get(branch) >= 0 && made.size() < 60);
        int h = branches.get(head);
        int x = branches.get(branch);
        int answer = tryMerge(x);
        if (answer == 1) {
            move(x);
        }
        if (answer == 2) {
            move(add(merged.result(), 0, h, x));
        }
        if (answer == 3) {
            startedAt = h;
            wait(1, x);
        }
        return answer;
    }

    private boolean keep(int commit) {
        Tree result = merged.result();
        if (result.equals(headTree())) {
            return false;
        }
        move(add(result, made.get(commit).word, branches.get(head), -1));
        return true;
    }

    private int single(int newKind, int commit) {
        if (!merged.conflicts().isEmpty()) {
            startedAt = branches.get(head);
            wait(newKind, commit);
            return 3;
        }
        return keep(commit) ? 2 : 0;
    }

    public int carry(int commit) {
        index(isThere(commit));
        state(isReady() && made.size() < 60);
        merged = mergeTrees(firstParentTree(commit), headTree(), made.get(commit).tree);
        return single(2, commit);
    }

    public int takeBack(int commit) {
        index(isThere(commit));
        state(isReady() && made.size() < 60);
        merged = mergeTrees(made.get(commit).tree, headTree(), firstParentTree(commit));
        return single(3, commit);
    }

    public int replay(int branch) {
        index(branches.containsKey(branch));
        state(isReady() && branches.get(branch) >= 0);
        int h = branches.get(head);
        int x = branches.get(branch);
        List<Integer> todo = new ArrayList<>();
        if (!ancestors(h).contains(x)) {
            for (int c : ancestors(h)) {
                if (!ancestors(x).contains(c) && made.get(c).second < 0) {
                    todo.add(c);
                }
            }
        }
        state(made.size() + todo.size() <= 60);
        if (ancestors(h).contains(x)) {
            return 0;
        }
        startedAt = h;
        queue = todo;
        anyMade = false;
        move(x);
        return carryOn();
    }

    private int carryOn() {
        while (!queue.isEmpty()) {
            int c = queue.remove(0);
            merged = mergeTrees(firstParentTree(c), headTree(), made.get(c).tree);
            if (!merged.conflicts().isEmpty()) {
                wait(4, c);
                return 3;
            }
            if (keep(c)) {
                anyMade = true;
            }
        }
        return anyMade ? 2 : 1;
    }

    public int settle(int conflict, int way) {
        state(kind != 0);
        index(conflict >= 0 && conflict < merged.conflicts().size());
        argument(way >= 0 && way <= 3);
        merged.conflicts().get(conflict).way = way;
        return merged.open();
    }

    public int goOn() {
        state(kind != 0 && merged.open() == 0);
        int was = kind;
        kind = 0;
        if (was == 1) {
            move(add(merged.result(), 0, branches.get(head), source));
            return 2;
        }
        boolean made2 = keep(source);
        if (was == 4) {
            anyMade |= made2;
            return carryOn();
        }
        return made2 ? 2 : 0;
    }

    public int giveUp() {
        state(kind != 0);
        kind = 0;
        move(startedAt);
        return merged.open();
    }

    // ---- work, asked

    public int pending() {
        return kind;
    }

    public int conflicts() {
        return kind == 0 ? 0 : merged.conflicts().size();
    }

    public int unsettled() {
        return kind == 0 ? 0 : merged.open();
    }

    public int left() {
        return kind == 4 ? queue.size() : 0;
    }

    public int conflictFile(int conflict) {
        index(conflict >= 0 && conflict < conflicts());
        return merged.conflicts().get(conflict).file;
    }

    public int pieceSize(int conflict, int side) {
        index(conflict >= 0 && conflict < conflicts() && side >= 0 && side <= 2);
        List<Integer> row = merged.conflicts().get(conflict).side(side);
        return row == null ? -1 : row.size();
    }

    public int pieceLine(int conflict, int side, int place) {
        int size = pieceSize(conflict, side);
        index(place >= 0 && place < size);
        return merged.conflicts().get(conflict).side(side).get(place);
    }

    // ---- asked

    public int deskLines(int file) {
        index(isFile(file));
        return desk.containsKey(file) ? desk.get(file).size() : -1;
    }

    public int deskLine(int file, int place) {
        index(isFile(file) && desk.containsKey(file) && place >= 0 && place < desk.get(file).size());
        return desk.get(file).get(place);
    }

    public boolean isClean() {
        return desk.equals(headTree());
    }

    public int commits() {
        return made.size();
    }

    public boolean isThere(int commit) {
        return commit >= 0 && commit < made.size() && !made.get(commit).gone;
    }

    public boolean isReached(int commit) {
        index(isThere(commit));
        return reached().contains(commit);
    }

    public int parent(int commit, boolean isSecond) {
        index(isThere(commit));
        return isSecond ? made.get(commit).second : made.get(commit).first;
    }

    public int wordOf(int commit) {
        index(isThere(commit));
        return made.get(commit).word;
    }

    public int lines(int commit, int file) {
        index(isThere(commit) && isFile(file));
        List<Integer> row = made.get(commit).tree.get(file);
        return row == null ? -1 : row.size();
    }

    public int lineAt(int commit, int file, int place) {
        int size = lines(commit, file);
        index(place >= 0 && place < size);
        return made.get(commit).tree.get(file).get(place);
    }

    public int head() {
        return head;
    }

    public int commitOf(int branch) {
        return branches.getOrDefault(branch, -2);
    }

    // ---- history

    public boolean isAncestor(int a, int b) {
        index(isThere(a) && isThere(b));
        return ancestors(b).contains(a);
    }

    private int baseOf(int a, int b) {
        Set<Integer> common = ancestors(a);
        common.retainAll(ancestors(b));
        int best = -1;
        for (int c : common) {
            boolean isBehind = false;
            for (int other : common) {
                isBehind |= other != c && ancestors(other).contains(c);
            }
            if (!isBehind) {
                best = Math.max(best, c);
            }
        }
        return best;
    }

    public int base(int a, int b) {
        index(isThere(a) && isThere(b));
        return baseOf(a, b);
    }

    public int ahead(int a, int b) {
        index(isThere(a) && isThere(b));
        Set<Integer> found = ancestors(a);
        found.removeAll(ancestors(b));
        return found.size();
    }

    public int touched(int a, int b) {
        index(isThere(a) && isThere(b));
        return differing(made.get(a).tree, made.get(b).tree);
    }

    private List<Integer> row(int commit, int file) {
        return made.get(commit).tree.getOrDefault(file, new ArrayList<>());
    }

    public int added(int a, int b, int file) {
        index(isThere(a) && isThere(b) && isFile(file));
        int count = row(b, file).size();
        for (int paired : match(row(a, file), row(b, file))) {
            if (paired >= 0) {
                count--;
            }
        }
        return count;
    }

    public int pairOf(int a, int b, int file, int place) {
        index(isThere(a) && isThere(b) && isFile(file));
        index(place >= 0 && place < row(a, file).size());
        return match(row(a, file), row(b, file))[place];
    }

    public int blame(int commit, int file, int place) {
        lineAt(commit, file, place);
        return blameOf(commit, file, place);
    }

    private int blameOf(int commit, int file, int place) {
        int[] parents = {made.get(commit).first, made.get(commit).second};
        for (int parent : parents) {
            if (parent >= 0 && made.get(parent).tree.containsKey(file)) {
                int[] pairs = match(row(parent, file), row(commit, file));
                for (int i = 0; i < pairs.length; i++) {
                    if (pairs[i] == place) {
                        return blameOf(parent, file, i);
                    }
                }
            }
        }
        return commit;
    }

    public int depthOf(int commit) {
        index(isThere(commit));
        int[] depths = new int[made.size()];
        for (int c = 0; c <= commit; c++) {
            int first = made.get(c).first;
            int second = made.get(c).second;
            depths[c] = 1 + Math.max(first < 0 ? 0 : depths[first], second < 0 ? 0 : depths[second]);
        }
        return depths[commit];
    }

    // ---- searching

    public int seek(int good, int bad) {
        index(isThere(good) && isThere(bad));
        argument(!ancestors(good).contains(bad));
        suspects = new TreeSet<>(ancestors(bad));
        suspects.removeAll(ancestors(good));
        return suspects.size();
    }

    public int probe() {
        if (suspects == null || suspects.size() == 1) {
            return -1;
        }
        int best = -1;
        int most = -1;
        for (int s : suspects) {
            Set<Integer> below = ancestors(s);
            below.retainAll(suspects);
            int smaller = Math.min(below.size(), suspects.size() - below.size());
            if (smaller > most) {
                most = smaller;
                best = s;
            }
        }
        return best;
    }

    public int tell(boolean isBad) {
        int tried = probe();
        state(tried != -1);
        if (isBad) {
            suspects.retainAll(ancestors(tried));
        } else {
            suspects.removeAll(ancestors(tried));
        }
        return suspects.size();
    }

    public int culprit() {
        return suspects != null && suspects.size() == 1 ? suspects.first() : -1;
    }

    // ---- what would be

    public int wouldMerge(int branch) {
        index(branches.containsKey(branch));
        state(isReady() && branches.get(branch) >= 0);
        return tryMerge(branches.get(branch));
    }

    public int wouldConflict(int commit) {
        index(isThere(commit));
        state(isReady());
        return mergeTrees(firstParentTree(commit), headTree(), made.get(commit).tree).conflicts().size();
    }

    public double meanLines() {
        int count = 0;
        int sum = 0;
        for (Commit commit : made) {
            if (!commit.gone) {
                count++;
                for (List<Integer> row : commit.tree.values()) {
                    sum += row.size();
                }
            }
        }
        return count == 0 ? 0 : (double) sum / count;
    }

    public long digest() {
        List<Long> xs = new ArrayList<>();
        long[] first = {commits(), head(), isClean() ? 1 : 0, pending(), conflicts(), unsettled(), left(), probe(), culprit()};
        for (long x : first) {
            xs.add(x);
        }
        for (int b = 0; b <= 7; b++) {
            xs.add((long) commitOf(b));
        }
        for (int c = 0; c < made.size(); c++) {
            xs.add(isThere(c) ? 1L : 0L);
            if (isThere(c)) {
                xs.add(isReached(c) ? 1L : 0L);
                xs.add((long) parent(c, false));
                xs.add((long) parent(c, true));
                xs.add((long) wordOf(c));
                xs.add((long) depthOf(c));
                for (int f = 0; f <= 7; f++) {
                    xs.add((long) lines(c, f));
                    for (int p = 0; p < lines(c, f); p++) {
                        xs.add((long) lineAt(c, f, p));
                    }
                }
            }
        }
        for (int f = 0; f <= 7; f++) {
            xs.add((long) deskLines(f));
            for (int p = 0; p < deskLines(f); p++) {
                xs.add((long) deskLine(f, p));
            }
        }
        for (int n = 0; n < conflicts(); n++) {
            xs.add((long) conflictFile(n));
            for (int side = 0; side <= 2; side++) {
                xs.add((long) pieceSize(n, side));
            }
        }
        long d = 58027;
        for (long x : xs) {
            d = d * 31 + x;
        }
        return d;
    }
}
