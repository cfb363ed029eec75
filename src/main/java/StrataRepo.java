import java.util.Arrays;

/** A version control system: files of lines on a desk, commits, branches, merges and searches. */
public final class StrataRepo {
    private static final int FILES = 8;
    private static final int MOST_LINES = 40;
    private static final int MOST_COMMITS = 60;
    private static final int BRANCHES = 8;
    /** The greatest line, and the greatest word. */
    private static final int MOST_NUMBER = 999;

    private static final int NONE = -1;
    private static final int NO_BRANCH = -2;

    private static final int OURS = 0;
    private static final int THEIRS = 1;
    private static final int BASE = 2;
    private static final int SIDES = 3;

    private static final int WAY_OURS = 0;
    private static final int WAY_THEIRS = 1;
    private static final int WAY_BOTH = 2;
    private static final int WAY_BASE = 3;
    private static final int WAY_OPEN = -1;

    private static final int NO_WORK = 0;
    private static final int MERGE = 1;
    private static final int CARRY = 2;
    private static final int TAKE_BACK = 3;
    private static final int REPLAY = 4;

    private static final int NOTHING_DONE = 0;
    private static final int ONLY_MOVED = 1;
    private static final int COMMIT_MADE = 2;
    private static final int WAITS = 3;

    private final Tree desk = new Tree();
    private final History history = new History();
    private final int[] tips = new int[BRANCHES];
    private int head = 0;

    private final Match match = new Match();
    private final Merging merging = new Merging();
    /** One bit for each SUSPECT; a search always keeps one, so 0 means that none is on. */
    private long suspects = 0L;

    private int workKind = NO_WORK;
    /** Where the HEAD was ahead of the WORK: giveUp() goes back there. */
    private int workStart = NONE;
    /** The commit that is merged, carried over or taken back just now. */
    private int workSource = NONE;
    /** One bit for each commit that a replay has still to carry over. */
    private long workQueue = 0L;
    private boolean workMade = false;

    public StrataRepo() {
        Arrays.fill(tips, NO_BRANCH);
        tips[0] = NONE;
    }

    // ---- the desk

    public int create(int file) throws IndexOutOfBoundsException, IllegalStateException {
        needFile(file);
        needNoWork();
        if (desk.has(file)) {
            throw new IllegalStateException("the file is there");
        }
        desk.putFile(file);
        return desk.fileCount();
    }

    public int delete(int file) throws IndexOutOfBoundsException, IllegalStateException {
        needFile(file);
        needNoWork();
        int size = desk.sizeOf(file);
        if (size < 0) {
            throw new IllegalStateException("the file is not there");
        }
        desk.takeFile(file);
        return size;
    }

    public int insert(int file, int place, int line)
            throws IndexOutOfBoundsException, IllegalArgumentException, IllegalStateException {
        needFile(file);
        needNumber(line);
        needNoWork();
        int size = desk.sizeOf(file);
        if (size < 0 || size >= MOST_LINES || place < 0 || place > size) {
            throw new IllegalStateException("the line cannot be put there");
        }
        desk.putLine(file, place, line);
        return size + 1;
    }

    public int erase(int file, int place) throws IndexOutOfBoundsException, IllegalStateException {
        needFile(file);
        needNoWork();
        needDeskPlace(file, place);
        int line = desk.lineOf(file, place);
        desk.takeLine(file, place);
        return line;
    }

    public int replace(int file, int place, int line)
            throws IndexOutOfBoundsException, IllegalArgumentException, IllegalStateException {
        needFile(file);
        needNumber(line);
        needNoWork();
        needDeskPlace(file, place);
        int before = desk.lineOf(file, place);
        desk.setLine(file, place, line);
        return before;
    }

    public int discard() throws IllegalStateException {
        needNoWork();
        Tree kept = treeOf(headCommit());
        int others = desk.othersThan(kept);
        desk.become(kept);
        return others;
    }

    // ---- commits and branches

    public int commit(int word) throws IllegalArgumentException, IllegalStateException {
        needNumber(word);
        needNoWork();
        needRoom(1);
        if (isClean()) {
            throw new IllegalStateException("the desk is clean");
        }
        int made = history.add(desk, word, headCommit(), NONE);
        setTip(head, made);
        return made;
    }

    public int branch(int branch) throws IllegalArgumentException, IllegalStateException {
        if (branch < 0 || branch >= BRANCHES) {
            throw new IllegalArgumentException("a branch is 0 to 7");
        }
        needNoWork();
        if (commitOf(branch) != NO_BRANCH || headCommit() == NONE) {
            throw new IllegalStateException("the branch cannot be made");
        }
        setTip(branch, headCommit());
        return branchCount();
    }

    public int go(int branch) throws IndexOutOfBoundsException, IllegalStateException {
        needBranch(branch);
        needNoWork();
        if (!isClean()) {
            throw new IllegalStateException("the desk is not clean");
        }
        int before = head;
        head = branch;
        desk.become(treeOf(headCommit()));
        return before;
    }

    public int drop(int branch) throws IndexOutOfBoundsException, IllegalStateException {
        needBranch(branch);
        needNoWork();
        if (branch == head) {
            throw new IllegalStateException("the branch is the head");
        }
        long before = reached();
        setTip(branch, NO_BRANCH);
        return Long.bitCount(before & ~reached());
    }

    public int reset(int commit) throws IndexOutOfBoundsException, IllegalStateException {
        needThere(commit);
        needNoWork();
        int before = headCommit();
        moveHead(commit);
        return before;
    }

    public int sweep() throws IllegalStateException {
        needNoWork();
        suspects = 0L;
        return history.keepOnly(reached());
    }

    // ---- merging, carrying, replaying

    public int merge(int branch) throws IndexOutOfBoundsException, IllegalStateException {
        needBranch(branch);
        needReadyFor(branch);
        needRoom(1);
        int theirs = commitOf(branch);
        int answer = tryMerge(theirs);
        if (answer == ONLY_MOVED) {
            moveHead(theirs);
        } else if (answer == COMMIT_MADE) {
            keepMerge(theirs);
        } else if (answer == WAITS) {
            waitWith(MERGE, theirs);
        }
        return answer;
    }

    public int carry(int commit) throws IndexOutOfBoundsException, IllegalStateException {
        needThere(commit);
        needReady();
        needRoom(1);
        merging.start(parentTreeOf(commit), treeOf(headCommit()), treeOf(commit));
        return keepOrWait(CARRY, commit);
    }

    public int takeBack(int commit) throws IndexOutOfBoundsException, IllegalStateException {
        needThere(commit);
        needReady();
        needRoom(1);
        merging.start(treeOf(commit), treeOf(headCommit()), parentTreeOf(commit));
        return keepOrWait(TAKE_BACK, commit);
    }

    public int replay(int branch) throws IndexOutOfBoundsException, IllegalStateException {
        needBranch(branch);
        needReadyFor(branch);
        Commit from = history.at(headCommit());
        Commit onto = history.at(commitOf(branch));
        if (from.descendsFrom(commitOf(branch))) {
            return NOTHING_DONE;
        }
        long queue = history.withoutMerges(from.ancestors & ~onto.ancestors);
        needRoom(Long.bitCount(queue));
        workStart = headCommit();
        workQueue = queue;
        workMade = false;
        moveHead(commitOf(branch));
        return carryQueue();
    }

    public int settle(int conflict, int way)
            throws IllegalStateException, IndexOutOfBoundsException, IllegalArgumentException {
        needWork();
        needConflict(conflict);
        if (way < WAY_OURS || way > WAY_BASE) {
            throw new IllegalArgumentException("a way is 0 to 3");
        }
        merging.setWay(conflict, way);
        return merging.openCount();
    }

    public int goOn() throws IllegalStateException {
        needWork();
        if (merging.openCount() > 0) {
            throw new IllegalStateException("a conflict is not settled");
        }
        int kind = workKind;
        workKind = NO_WORK;
        merging.build();
        if (kind == MERGE) {
            keepMerge(workSource);
            return COMMIT_MADE;
        }
        boolean made = keepIfOther(workSource);
        if (kind == REPLAY) {
            workMade = workMade || made;
            return carryQueue();
        }
        return made ? COMMIT_MADE : NOTHING_DONE;
    }

    public int giveUp() throws IllegalStateException {
        needWork();
        int open = merging.openCount();
        workKind = NO_WORK;
        moveHead(workStart);
        return open;
    }

    // ---- WORK that is PENDING, asked

    public int pending() {
        return workKind;
    }

    public int conflicts() {
        return workKind == NO_WORK ? 0 : merging.conflictCount();
    }

    public int unsettled() {
        return workKind == NO_WORK ? 0 : merging.openCount();
    }

    public int left() {
        return workKind == REPLAY ? Long.bitCount(workQueue) : 0;
    }

    public int conflictFile(int conflict) throws IndexOutOfBoundsException {
        needConflict(conflict);
        return merging.fileOf(merging.pieceOf(conflict));
    }

    public int pieceSize(int conflict, int side) throws IndexOutOfBoundsException {
        needConflict(conflict);
        needSide(side);
        return merging.sizeOf(merging.pieceOf(conflict), side);
    }

    public int pieceLine(int conflict, int side, int place) throws IndexOutOfBoundsException {
        needConflict(conflict);
        needSide(side);
        int piece = merging.pieceOf(conflict);
        needPlace(place, merging.sizeOf(piece, side));
        return merging.lineOf(piece, side, place);
    }

    // ---- the desk, commits and branches, asked

    public int deskLines(int file) throws IndexOutOfBoundsException {
        needFile(file);
        return desk.sizeOf(file);
    }

    public int deskLine(int file, int place) throws IndexOutOfBoundsException {
        needFile(file);
        needPlace(place, desk.sizeOf(file));
        return desk.lineOf(file, place);
    }

    public boolean isClean() {
        return desk.othersThan(treeOf(headCommit())) == 0;
    }

    public int commits() {
        return history.count;
    }

    public boolean isThere(int commit) {
        return history.keeps(commit);
    }

    public boolean isReached(int commit) throws IndexOutOfBoundsException {
        needThere(commit);
        return (reached() & (1L << commit)) != 0L;
    }

    public int parent(int commit, boolean isSecond) throws IndexOutOfBoundsException {
        needThere(commit);
        Commit child = history.at(commit);
        return isSecond ? child.second : child.first;
    }

    public int wordOf(int commit) throws IndexOutOfBoundsException {
        needThere(commit);
        return history.at(commit).word;
    }

    public int lines(int commit, int file) throws IndexOutOfBoundsException {
        needThere(commit);
        needFile(file);
        return treeOf(commit).sizeOf(file);
    }

    public int lineAt(int commit, int file, int place) throws IndexOutOfBoundsException {
        needLine(commit, file, place);
        return treeOf(commit).lineOf(file, place);
    }

    public int head() {
        return head;
    }

    public int commitOf(int branch) {
        return branch < 0 || branch >= BRANCHES ? NO_BRANCH : tips[branch];
    }

    // ---- history

    public boolean isAncestor(int a, int b) throws IndexOutOfBoundsException {
        needBoth(a, b);
        return history.at(b).descendsFrom(a);
    }

    public int base(int a, int b) throws IndexOutOfBoundsException {
        needBoth(a, b);
        return history.baseOf(a, b);
    }

    public int ahead(int a, int b) throws IndexOutOfBoundsException {
        needBoth(a, b);
        return Long.bitCount(history.at(a).ancestors & ~history.at(b).ancestors);
    }

    public int touched(int a, int b) throws IndexOutOfBoundsException {
        needBoth(a, b);
        return treeOf(a).othersThan(treeOf(b));
    }

    public int added(int a, int b, int file) throws IndexOutOfBoundsException {
        needBoth(a, b);
        needFile(file);
        match.run(treeOf(a), treeOf(b), file);
        return treeOf(b).countOf(file) - match.pairs;
    }

    public int pairOf(int a, int b, int file, int place) throws IndexOutOfBoundsException {
        needBoth(a, b);
        needLine(a, file, place);
        match.run(treeOf(a), treeOf(b), file);
        return match.placeInB(place);
    }

    public int blame(int commit, int file, int place) throws IndexOutOfBoundsException {
        needLine(commit, file, place);
        int holder = commit;
        int at = place;
        // A parent's number is smaller than its child's, so the way back is shorter than this.
        for (int step = 0; step < MOST_COMMITS; step++) {
            Commit child = history.at(holder);
            int source = child.first;
            int paired = placeBefore(source, child, file, at);
            if (paired == NONE) {
                source = child.second;
                paired = placeBefore(source, child, file, at);
            }
            if (paired == NONE) {
                return holder;
            }
            holder = source;
            at = paired;
        }
        return holder;
    }

    public int depthOf(int commit) throws IndexOutOfBoundsException {
        needThere(commit);
        return history.at(commit).depth;
    }

    // ---- searching

    public int seek(int good, int bad) throws IndexOutOfBoundsException, IllegalArgumentException {
        needBoth(good, bad);
        Commit spared = history.at(good);
        if (spared.descendsFrom(bad)) {
            throw new IllegalArgumentException("the bad commit is an ancestor of the good one");
        }
        suspects = history.at(bad).ancestors & ~spared.ancestors;
        return Long.bitCount(suspects);
    }

    public int probe() {
        int all = Long.bitCount(suspects);
        if (all < 2) {
            return NONE;
        }
        int best = NONE;
        int most = 0;
        for (int commit = 0; commit < MOST_COMMITS; commit++) {
            if ((suspects & (1L << commit)) != 0L) {
                int below = Long.bitCount(suspects & history.at(commit).ancestors);
                int smaller = Math.min(below, all - below);
                if (smaller > most) {
                    most = smaller;
                    best = commit;
                }
            }
        }
        return best;
    }

    public int tell(boolean isBad) throws IllegalStateException {
        int tried = probe();
        if (tried == NONE) {
            throw new IllegalStateException("there is nothing to be tried");
        }
        long below = history.at(tried).ancestors;
        suspects = isBad ? suspects & below : suspects & ~below;
        return Long.bitCount(suspects);
    }

    public int culprit() {
        return Long.bitCount(suspects) == 1 ? greatestOf(suspects) : NONE;
    }

    // ---- what would be (nothing is changed)

    public int wouldMerge(int branch) throws IndexOutOfBoundsException, IllegalStateException {
        needBranch(branch);
        needReadyFor(branch);
        return tryMerge(commitOf(branch));
    }

    public int wouldConflict(int commit) throws IndexOutOfBoundsException, IllegalStateException {
        needThere(commit);
        needReady();
        merging.start(parentTreeOf(commit), treeOf(headCommit()), treeOf(commit));
        return merging.conflictCount();
    }

    public double meanLines() {
        int kept = 0;
        int all = 0;
        for (int commit = 0; commit < history.count; commit++) {
            if (history.keeps(commit)) {
                kept++;
                all += treeOf(commit).lineCount();
            }
        }
        return kept == 0 ? 0.0 : (double) all / (double) kept;
    }

    public long digest() {
        long d = 58027L;
        d = d * 31 + commits();
        d = d * 31 + head();
        d = d * 31 + (isClean() ? 1 : 0);
        d = d * 31 + pending();
        d = d * 31 + conflicts();
        d = d * 31 + unsettled();
        d = d * 31 + left();
        d = d * 31 + probe();
        d = d * 31 + culprit();
        for (int branch = 0; branch < BRANCHES; branch++) {
            d = d * 31 + commitOf(branch);
        }
        for (int commit = 0; commit < history.count; commit++) {
            d = d * 31 + (isThere(commit) ? 1 : 0);
            if (isThere(commit)) {
                d = withCommit(d, commit);
            }
        }
        d = withTree(d, desk);
        return withConflicts(d);
    }

    private long withCommit(long start, int commit) {
        long d = start;
        d = d * 31 + (isReached(commit) ? 1 : 0);
        d = d * 31 + parent(commit, false);
        d = d * 31 + parent(commit, true);
        d = d * 31 + wordOf(commit);
        d = d * 31 + depthOf(commit);
        return withTree(d, treeOf(commit));
    }

    private static long withTree(long start, Tree tree) {
        long d = start;
        for (int file = 0; file < FILES; file++) {
            int size = tree.sizeOf(file);
            d = d * 31 + size;
            for (int place = 0; place < size; place++) {
                d = d * 31 + tree.lineOf(file, place);
            }
        }
        return d;
    }

    private long withConflicts(long start) {
        long d = start;
        int count = conflicts();
        for (int conflict = 0; conflict < count; conflict++) {
            d = d * 31 + conflictFile(conflict);
            for (int side = 0; side < SIDES; side++) {
                d = d * 31 + pieceSize(conflict, side);
            }
        }
        return d;
    }

    // ---- what a call needs, or it throws

    private static void needFile(int file) {
        if (file < 0 || file >= FILES) {
            throw new IndexOutOfBoundsException("a file is 0 to 7");
        }
    }

    private static void needNumber(int number) {
        if (number < 0 || number > MOST_NUMBER) {
            throw new IllegalArgumentException("a line or a word is 0 to 999");
        }
    }

    private static void needPlace(int place, int size) {
        if (place < 0 || place >= size) {
            throw new IndexOutOfBoundsException("there is no such place");
        }
    }

    private static void needSide(int side) {
        if (side < 0 || side >= SIDES) {
            throw new IndexOutOfBoundsException("a side is 0 to 2");
        }
    }

    private void needDeskPlace(int file, int place) {
        if (place < 0 || place >= desk.sizeOf(file)) {
            throw new IllegalStateException("the desk has no such place");
        }
    }

    private void needThere(int commit) {
        if (!history.keeps(commit)) {
            throw new IndexOutOfBoundsException("there is no such commit");
        }
    }

    private void needBoth(int a, int b) {
        needThere(a);
        needThere(b);
    }

    private void needLine(int commit, int file, int place) {
        needThere(commit);
        needFile(file);
        needPlace(place, treeOf(commit).sizeOf(file));
    }

    private void needBranch(int branch) {
        if (commitOf(branch) == NO_BRANCH) {
            throw new IndexOutOfBoundsException("there is no such branch");
        }
    }

    private void needConflict(int conflict) {
        if (conflict < 0 || conflict >= conflicts()) {
            throw new IndexOutOfBoundsException("there is no such conflict");
        }
    }

    private void needNoWork() {
        if (workKind != NO_WORK) {
            throw new IllegalStateException("work is pending");
        }
    }

    private void needWork() {
        if (workKind == NO_WORK) {
            throw new IllegalStateException("no work is pending");
        }
    }

    private void needRoom(int more) {
        if (history.count + more > MOST_COMMITS) {
            throw new IllegalStateException("there is no room for the commits");
        }
    }

    private void needReady() {
        needNoWork();
        if (headCommit() == NONE || !isClean()) {
            throw new IllegalStateException("the head is at no commit, or the desk is not clean");
        }
    }

    private void needReadyFor(int branch) {
        needReady();
        if (commitOf(branch) == NONE) {
            throw new IllegalStateException("the branch is at no commit");
        }
    }

    // ---- commits, branches and the HEAD

    /** The greatest number of commits that have one bit each; NONE without any. */
    private static int greatestOf(long some) {
        for (int commit = MOST_COMMITS - 1; commit >= 0; commit--) {
            if ((some & (1L << commit)) != 0L) {
                return commit;
            }
        }
        return NONE;
    }

    private int headCommit() {
        return commitOf(head);
    }

    private Tree treeOf(int commit) {
        return history.at(commit).tree;
    }

    /** The empty tree, if the commit has no parent. */
    private Tree parentTreeOf(int commit) {
        return treeOf(history.at(commit).first);
    }

    private void setTip(int branch, int commit) {
        if (branch >= 0 && branch < BRANCHES) {
            tips[branch] = commit;
        }
    }

    private void moveHead(int commit) {
        setTip(head, commit);
        desk.become(treeOf(commit));
    }

    private int branchCount() {
        int count = 0;
        for (int branch = 0; branch < BRANCHES; branch++) {
            if (tips[branch] != NO_BRANCH) {
                count++;
            }
        }
        return count;
    }

    private long reached() {
        long all = 0L;
        for (int branch = 0; branch < BRANCHES; branch++) {
            all |= history.at(tips[branch]).ancestors;
        }
        return all;
    }

    /** Where a line of the child stood in the parent; NONE, if it is not from there. */
    private int placeBefore(int parent, Commit child, int file, int place) {
        match.run(treeOf(parent), child.tree, file);
        return match.placeInA(place);
    }

    // ---- WORK

    /** What a merge would answer; behind COMMIT_MADE and WAITS, merging holds what it is of. */
    private int tryMerge(int theirs) {
        int ours = headCommit();
        if (history.at(ours).descendsFrom(theirs)) {
            return NOTHING_DONE;
        }
        if (history.at(theirs).descendsFrom(ours)) {
            return ONLY_MOVED;
        }
        merging.start(treeOf(history.baseOf(ours, theirs)), treeOf(ours), treeOf(theirs));
        return merging.conflictCount() > 0 ? WAITS : COMMIT_MADE;
    }

    private void keepMerge(int theirs) {
        moveHead(history.add(merging.result, 0, headCommit(), theirs));
    }

    private void waitWith(int kind, int source) {
        workKind = kind;
        workStart = headCommit();
        workSource = source;
    }

    private int keepOrWait(int kind, int source) {
        if (merging.conflictCount() > 0) {
            waitWith(kind, source);
            return WAITS;
        }
        return keepIfOther(source) ? COMMIT_MADE : NOTHING_DONE;
    }

    private boolean keepIfOther(int source) {
        if (merging.result.othersThan(treeOf(headCommit())) == 0) {
            return false;
        }
        moveHead(history.add(merging.result, history.at(source).word, headCommit(), NONE));
        return true;
    }

    private int carryQueue() {
        for (int commit = 0; commit < MOST_COMMITS; commit++) {
            long bit = 1L << commit;
            if ((workQueue & bit) != 0L) {
                workQueue &= ~bit;
                merging.start(parentTreeOf(commit), treeOf(headCommit()), treeOf(commit));
                if (merging.conflictCount() > 0) {
                    workKind = REPLAY;
                    workSource = commit;
                    return WAITS;
                }
                workMade = keepIfOther(commit) || workMade;
            }
        }
        return workMade ? COMMIT_MADE : ONLY_MOVED;
    }

    /** Files of lines. Each place and name is looked at here, so that no caller can go astray. */
    private static final class Tree {
        /** How many lines each file has; NONE, if it is not there. */
        private final int[] sizes = new int[FILES];
        private final int[] cells = new int[FILES * MOST_LINES];

        Tree() {
            Arrays.fill(sizes, NONE);
        }

        int sizeOf(int file) {
            return file < 0 || file >= FILES ? NONE : sizes[file];
        }

        /** As sizeOf(), but a file that is not there counts as one without lines. */
        int countOf(int file) {
            return file < 0 || file >= FILES ? 0 : Math.max(sizes[file], 0);
        }

        boolean has(int file) {
            return sizeOf(file) >= 0;
        }

        int lineOf(int file, int place) {
            if (file < 0 || file >= FILES || place < 0 || place >= MOST_LINES || place >= sizes[file]) {
                return NONE;
            }
            return cells[file * MOST_LINES + place];
        }

        int fileCount() {
            int count = 0;
            for (int file = 0; file < FILES; file++) {
                if (sizes[file] >= 0) {
                    count++;
                }
            }
            return count;
        }

        int lineCount() {
            int count = 0;
            for (int file = 0; file < FILES; file++) {
                count += Math.max(sizes[file], 0);
            }
            return count;
        }

        void putFile(int file) {
            if (file >= 0 && file < FILES && sizes[file] < 0) {
                sizes[file] = 0;
            }
        }

        void takeFile(int file) {
            if (file >= 0 && file < FILES) {
                sizes[file] = NONE;
            }
        }

        void clear() {
            Arrays.fill(sizes, NONE);
        }

        void setLine(int file, int place, int line) {
            if (file >= 0 && file < FILES && place >= 0 && place < MOST_LINES && place < sizes[file]) {
                cells[file * MOST_LINES + place] = line;
            }
        }

        void putLine(int file, int place, int line) {
            int size = sizeOf(file);
            if (size < 0 || size >= MOST_LINES || place < 0 || place > size) {
                return;
            }
            int top = file * MOST_LINES;
            for (int at = top + size; at > top + place; at--) {
                cells[at] = cells[at - 1];
            }
            cells[top + place] = line;
            sizes[file] = size + 1;
        }

        void takeLine(int file, int place) {
            int size = sizeOf(file);
            if (place < 0 || place >= size || size > MOST_LINES) {
                return;
            }
            int top = file * MOST_LINES;
            for (int at = top + place; at < top + size - 1; at++) {
                cells[at] = cells[at + 1];
            }
            sizes[file] = size - 1;
        }

        /** Puts a line behind the last one; one behind the fortieth is left out. */
        void addLine(int file, int line) {
            if (file < 0 || file >= FILES) {
                return;
            }
            int size = sizes[file];
            if (size >= 0 && size < MOST_LINES) {
                cells[file * MOST_LINES + size] = line;
                sizes[file] = size + 1;
            }
        }

        void become(Tree other) {
            System.arraycopy(other.sizes, 0, sizes, 0, FILES);
            System.arraycopy(other.cells, 0, cells, 0, FILES * MOST_LINES);
        }

        /** How many files are other in both trees, or there in one of both alone. */
        int othersThan(Tree other) {
            int count = 0;
            for (int file = 0; file < FILES; file++) {
                if (!hasSame(file, other)) {
                    count++;
                }
            }
            return count;
        }

        private boolean hasSame(int file, Tree other) {
            int size = sizeOf(file);
            if (size != other.sizeOf(file)) {
                return false;
            }
            for (int place = 0; place < size; place++) {
                if (lineOf(file, place) != other.lineOf(file, place)) {
                    return false;
                }
            }
            return true;
        }
    }

    /** A commit as it was made; one bit of ancestors stands for each commit, its own among them. */
    private static final class Commit {
        private final Tree tree;
        private final int word;
        private final int first;
        private final int second;
        private final int depth;
        private final long ancestors;

        Commit(Tree tree, int word, int first, int second, int depth, long ancestors) {
            this.tree = tree;
            this.word = word;
            this.first = first;
            this.second = second;
            this.depth = depth;
            this.ancestors = ancestors;
        }

        boolean descendsFrom(int number) {
            return number >= 0 && number < MOST_COMMITS && (ancestors & (1L << number)) != 0L;
        }
    }

    /** All commits that were made, and which of them are GONE. */
    private static final class History {
        private final Commit[] made = new Commit[MOST_COMMITS];
        /** Stands where there is no commit: an empty tree, and nothing behind it. */
        private final Commit none = new Commit(new Tree(), NONE, NONE, NONE, 0, 0L);
        private int count = 0;
        private long gone = 0L;

        Commit at(int number) {
            if (number < 0 || number >= MOST_COMMITS) {
                return none;
            }
            Commit commit = made[number];
            return commit == null ? none : commit;
        }

        boolean keeps(int number) {
            return number >= 0 && number < count && (gone & (1L << number)) == 0L;
        }

        int add(Tree tree, int word, int first, int second) {
            if (count >= MOST_COMMITS) {
                return NONE;
            }
            Tree kept = new Tree();
            kept.become(tree);
            int depth = 1 + Math.max(at(first).depth, at(second).depth);
            long ancestors = (1L << count) | at(first).ancestors | at(second).ancestors;
            made[count] = new Commit(kept, word, first, second, depth, ancestors);
            count++;
            return count - 1;
        }

        /** Of the commits that both have, the last one made: no other of them can have it behind it. */
        int baseOf(int a, int b) {
            return greatestOf(at(a).ancestors & at(b).ancestors);
        }

        long withoutMerges(long some) {
            long rest = some;
            for (int commit = 0; commit < MOST_COMMITS; commit++) {
                if (at(commit).second != NONE) {
                    rest &= ~(1L << commit);
                }
            }
            return rest;
        }

        /** Answers how many commits are GONE by this. */
        int keepOnly(long some) {
            long lost = ((1L << count) - 1) & ~gone & ~some;
            gone |= lost;
            return Long.bitCount(lost);
        }
    }

    /** The match of a file of two trees, a and b. */
    private static final class Match {
        private static final int WIDE = MOST_LINES + 1;

        /** The L(i, k) of the document, row by row. */
        private final int[] longest = new int[WIDE * WIDE];
        private final int[] placesInB = new int[MOST_LINES];
        private final int[] placesInA = new int[MOST_LINES];
        private int pairs = 0;

        void run(Tree a, Tree b, int file) {
            Arrays.fill(placesInB, NONE);
            Arrays.fill(placesInA, NONE);
            pairs = 0;
            int aSize = a.countOf(file);
            int bSize = b.countOf(file);
            int i = 0;
            // The same lines at the top are paired whatever is below, so the table is spared for them.
            while (i < aSize && i < bSize && a.lineOf(file, i) == b.lineOf(file, i)) {
                pair(i, i);
                i++;
            }
            int k = i;
            measure(a, b, file, i);
            while (i < aSize && k < bSize) {
                if (a.lineOf(file, i) == b.lineOf(file, k)) {
                    pair(i, k);
                    i++;
                    k++;
                } else if (longestFrom(i + 1, k) >= longestFrom(i, k + 1)) {
                    i++;
                } else {
                    k++;
                }
            }
        }

        int placeInB(int placeOfA) {
            return placeOfA < 0 || placeOfA >= MOST_LINES ? NONE : placesInB[placeOfA];
        }

        int placeInA(int placeOfB) {
            return placeOfB < 0 || placeOfB >= MOST_LINES ? NONE : placesInA[placeOfB];
        }

        private void pair(int i, int k) {
            if (i >= 0 && i < MOST_LINES && k >= 0 && k < MOST_LINES) {
                placesInB[i] = k;
                placesInA[k] = i;
                pairs++;
            }
        }

        private void measure(Tree a, Tree b, int file, int top) {
            int aSize = a.countOf(file);
            int bSize = b.countOf(file);
            for (int i = aSize; i >= top; i--) {
                for (int k = bSize; k >= top; k--) {
                    if (i == aSize || k == bSize) {
                        setLongest(i, k, 0);
                    } else if (a.lineOf(file, i) == b.lineOf(file, k)) {
                        setLongest(i, k, 1 + longestFrom(i + 1, k + 1));
                    } else {
                        setLongest(i, k, Math.max(longestFrom(i + 1, k), longestFrom(i, k + 1)));
                    }
                }
            }
        }

        private int longestFrom(int i, int k) {
            return i < 0 || i >= WIDE || k < 0 || k >= WIDE ? 0 : longest[i * WIDE + k];
        }

        private void setLongest(int i, int k, int length) {
            if (i >= 0 && i < WIDE && k >= 0 && k < WIDE) {
                longest[i * WIDE + k] = length;
            }
        }
    }

    /**
     * Merges three trees: they are cut into pieces, each piece gets a way, and by the ways the
     * result is built. A file that ours or theirs has not is one piece, and of the size NONE where
     * it is not there: so one rule answers for pieces and for whole files.
     */
    private static final class Merging {
        private static final int MOST_PIECES = FILES * (MOST_LINES + 1);

        private final Match toOurs = new Match();
        private final Match toTheirs = new Match();
        private final Tree result = new Tree();
        /** Any tree will do until start() brings the three: none of them is ever null. */
        private Tree base = result;
        private Tree ours = result;
        private Tree theirs = result;

        private final int[] files = new int[MOST_PIECES];
        /** Where each piece begins and how long it is: all of one side, then all of the next. */
        private final int[] tops = new int[SIDES * MOST_PIECES];
        private final int[] sizes = new int[SIDES * MOST_PIECES];
        private final int[] ways = new int[MOST_PIECES];
        private int pieces = 0;
        /** Where the next piece begins, on each side. */
        private final int[] next = new int[SIDES];

        private final int[] conflictPieces = new int[MOST_PIECES];
        private int conflictCount = 0;

        void start(Tree base, Tree ours, Tree theirs) {
            this.base = base;
            this.ours = ours;
            this.theirs = theirs;
            pieces = 0;
            conflictCount = 0;
            for (int file = 0; file < FILES; file++) {
                cutFile(file);
            }
            for (int piece = 0; piece < pieces; piece++) {
                choose(piece);
            }
            build();
        }

        int conflictCount() {
            return conflictCount;
        }

        int openCount() {
            int count = 0;
            for (int conflict = 0; conflict < conflictCount; conflict++) {
                if (wayOf(pieceOf(conflict)) == WAY_OPEN) {
                    count++;
                }
            }
            return count;
        }

        void setWay(int conflict, int way) {
            int piece = pieceOf(conflict);
            if (isPiece(piece)) {
                ways[piece] = way;
            }
        }

        /** The result is what it shall be as soon as no conflict is open. */
        void build() {
            result.clear();
            for (int piece = 0; piece < pieces; piece++) {
                int way = wayOf(piece);
                if (way == WAY_OURS || way == WAY_BOTH) {
                    append(piece, OURS);
                }
                if (way == WAY_THEIRS || way == WAY_BOTH) {
                    append(piece, THEIRS);
                }
                if (way == WAY_BASE) {
                    append(piece, BASE);
                }
                appendHeldLine(piece);
            }
        }

        int pieceOf(int conflict) {
            return conflict < 0 || conflict >= conflictCount || conflict >= MOST_PIECES
                    ? NONE : conflictPieces[conflict];
        }

        int fileOf(int piece) {
            return piece < 0 || piece >= MOST_PIECES ? NONE : files[piece];
        }

        int sizeOf(int piece, int side) {
            if (piece < 0 || piece >= MOST_PIECES || side < 0 || side >= SIDES) {
                return NONE;
            }
            return sizes[side * MOST_PIECES + piece];
        }

        int lineOf(int piece, int side, int place) {
            return treeOfSide(side).lineOf(fileOf(piece), topOf(piece, side) + place);
        }

        private static boolean isPiece(int piece) {
            return piece >= 0 && piece < MOST_PIECES;
        }

        private int topOf(int piece, int side) {
            if (piece < 0 || piece >= MOST_PIECES || side < 0 || side >= SIDES) {
                return NONE;
            }
            return tops[side * MOST_PIECES + piece];
        }

        private int wayOf(int piece) {
            return isPiece(piece) ? ways[piece] : WAY_OPEN;
        }

        private Tree treeOfSide(int side) {
            return side == OURS ? ours : side == THEIRS ? theirs : base;
        }

        private void cutFile(int file) {
            Arrays.fill(next, 0);
            if (!ours.has(file) || !theirs.has(file)) {
                addPiece(file, ours.sizeOf(file), theirs.sizeOf(file), base.sizeOf(file));
                return;
            }
            toOurs.run(base, ours, file);
            toTheirs.run(base, theirs, file);
            int baseSize = base.countOf(file);
            for (int place = 0; place < baseSize; place++) {
                int ourPlace = toOurs.placeInB(place);
                int theirPlace = toTheirs.placeInB(place);
                if (ourPlace != NONE && theirPlace != NONE) {
                    addPiece(file, ourPlace, theirPlace, place);
                }
            }
            addPiece(file, ours.sizeOf(file), theirs.sizeOf(file), baseSize);
        }

        /** Ends a piece on each side; the next one begins behind the HELD line that stands there. */
        private void addPiece(int file, int ourEnd, int theirEnd, int baseEnd) {
            if (!isPiece(pieces)) {
                return;
            }
            files[pieces] = file;
            ways[pieces] = WAY_OPEN;
            addSpan(OURS, ourEnd);
            addSpan(THEIRS, theirEnd);
            addSpan(BASE, baseEnd);
            pieces++;
        }

        private void addSpan(int side, int end) {
            if (isPiece(pieces) && side >= 0 && side < SIDES) {
                tops[side * MOST_PIECES + pieces] = next[side];
                sizes[side * MOST_PIECES + pieces] = end - next[side];
                next[side] = end + 1;
            }
        }

        private void choose(int piece) {
            if (!isPiece(piece)) {
                return;
            }
            if (isSame(piece, OURS, BASE)) {
                ways[piece] = WAY_THEIRS;
            } else if (isSame(piece, THEIRS, BASE) || isSame(piece, OURS, THEIRS)) {
                ways[piece] = WAY_OURS;
            } else if (isPiece(conflictCount)) {
                conflictPieces[conflictCount] = piece;
                conflictCount++;
            }
        }

        private boolean isSame(int piece, int oneSide, int otherSide) {
            int size = sizeOf(piece, oneSide);
            if (size != sizeOf(piece, otherSide)) {
                return false;
            }
            for (int place = 0; place < size; place++) {
                if (lineOf(piece, oneSide, place) != lineOf(piece, otherSide, place)) {
                    return false;
                }
            }
            return true;
        }

        private void append(int piece, int side) {
            int file = fileOf(piece);
            int size = sizeOf(piece, side);
            if (size >= 0) {
                result.putFile(file);
            }
            for (int place = 0; place < size; place++) {
                result.addLine(file, lineOf(piece, side, place));
            }
        }

        private void appendHeldLine(int piece) {
            int file = fileOf(piece);
            int held = base.lineOf(file, topOf(piece, BASE) + Math.max(sizeOf(piece, BASE), 0));
            if (held != NONE) {
                result.addLine(file, held);
            }
        }
    }
}
