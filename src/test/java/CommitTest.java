/** Promises 8 to 13 and 31 to 39: commits and branches. */
public final class CommitTest {
    private static final int MIN = Integer.MIN_VALUE;
    private static final int MAX = Integer.MAX_VALUE;

    private static void commit() {
        StrataRepo repo = new StrataRepo();
        Check.state(8, "commit(0), nothing there", repo, () -> repo.commit(0));
        repo.create(0);
        for (int word : new int[] {-1, 1000, MIN, MAX}) {
            Check.argument(8, "commit(" + word + ")", repo, () -> repo.commit(word));
        }
        Check.due(8, "commit(0)", repo.commit(0), 0);
        Check.due(8, "commitOf(0)", repo.commitOf(0), 0);
        Check.due(8, "parent(0, false)", repo.parent(0, false), -1);
        Check.state(8, "commit(5), clean", repo, () -> repo.commit(5));
        Check.argument(8, "commit(1000), clean", repo, () -> repo.commit(1000));
        repo.insert(0, 0, 6);
        Check.due(8, "commit(999)", repo.commit(999), 1);
        Check.due(8, "parent(1, false)", repo.parent(1, false), 0);
        Check.due(8, "parent(1, true)", repo.parent(1, true), -1);
        Check.due(8, "lines(0, 0)", repo.lines(0, 0), 0);
        Check.due(8, "lineAt(1, 0, 0)", repo.lineAt(1, 0, 0), 6);
        repo.delete(0);
        Check.due(8, "commit(3) of an empty desk", repo.commit(3), 2);
        Check.due(8, "lines(2, 0)", repo.lines(2, 0), -1);
        Check.due(8, "isClean()", repo.isClean(), true);
        StrataRepo busy = Make.pendingMerge();
        Check.state(8, "commit(1), pending", busy, () -> busy.commit(1));
        Check.argument(8, "commit(-1), pending", busy, () -> busy.commit(-1));
        StrataRepo full = Make.chain(60);
        Check.due(8, "commits()", full.commits(), 60);
        full.insert(0, 0, 9);
        Check.state(8, "commit(1), 60 made", full, () -> full.commit(1));
        full.discard();
        full.reset(0);
        full.sweep();
        full.insert(0, 0, 9);
        Check.state(8, "commit(1), 60 made and swept", full, () -> full.commit(1));
    }

    private static void branch() {
        StrataRepo repo = new StrataRepo();
        for (int branch : new int[] {-1, 8, MIN, MAX}) {
            Check.argument(9, "branch(" + branch + ")", repo, () -> repo.branch(branch));
        }
        Check.state(9, "branch(1), no commit", repo, () -> repo.branch(1));
        repo.create(0);
        Check.state(9, "branch(1), no commit, a file", repo, () -> repo.branch(1));
        repo.commit(1);
        Check.state(9, "branch(0)", repo, () -> repo.branch(0));
        Check.due(9, "branch(7)", repo.branch(7), 2);
        Check.due(9, "commitOf(7)", repo.commitOf(7), 0);
        Check.due(9, "head()", repo.head(), 0);
        Check.state(9, "branch(7) again", repo, () -> repo.branch(7));
        repo.insert(0, 0, 1);
        Check.due(9, "branch(1), not clean", repo.branch(1), 3);
        Check.due(9, "deskLines(0)", repo.deskLines(0), 1);
        repo.commit(2);
        Check.due(9, "branch(2)", repo.branch(2), 4);
        Check.due(9, "commitOf(2)", repo.commitOf(2), 1);
        Check.due(9, "commitOf(1)", repo.commitOf(1), 0);
        for (int branch = 3; branch < 7; branch++) {
            Check.due(9, "branch(" + branch + ")", repo.branch(branch), branch + 2);
        }
        repo.drop(4);
        Check.due(9, "branch(4) again", repo.branch(4), 8);
        StrataRepo busy = Make.pendingMerge();
        Check.state(9, "branch(5), pending", busy, () -> busy.branch(5));
        Check.argument(9, "branch(8), pending", busy, () -> busy.branch(8));
    }

    private static void go() {
        StrataRepo repo = new StrataRepo();
        Check.due(10, "go(0), no commit", repo.go(0), 0);
        Make.commit(repo, 1, 0, 1, 2);
        repo.branch(3);
        Make.commit(repo, 2, 1, 9);
        Check.due(10, "go(3)", repo.go(3), 0);
        Check.due(10, "head()", repo.head(), 3);
        Check.due(10, "file 1", Make.desk(repo, 1), "none");
        Check.due(10, "file 0", Make.desk(repo, 0), "1 2");
        Check.due(10, "go(3) again", repo.go(3), 3);
        Check.due(10, "go(0)", repo.go(0), 3);
        Check.due(10, "file 1", Make.desk(repo, 1), "9");
        for (int branch : new int[] {-1, 1, 8, MIN, MAX}) {
            Check.index(10, "go(" + branch + ")", repo, () -> repo.go(branch));
        }
        repo.erase(0, 0);
        Check.state(10, "go(3), not clean", repo, () -> repo.go(3));
        Check.state(10, "go(0), not clean", repo, () -> repo.go(0));
        Check.index(10, "go(1), not clean", repo, () -> repo.go(1));
        StrataRepo busy = Make.pendingMerge();
        Check.state(10, "go(0), pending", busy, () -> busy.go(0));
        Check.state(10, "go(1), pending", busy, () -> busy.go(1));
        Check.index(10, "go(2), pending", busy, () -> busy.go(2));
    }

    private static void drop() {
        StrataRepo repo = new StrataRepo();
        Check.state(11, "drop(0), no commit", repo, () -> repo.drop(0));
        Make.commit(repo, 1, 0, 1);
        repo.branch(1);
        repo.branch(2);
        repo.go(1);
        Make.commit(repo, 2, 0, 2);
        Make.commit(repo, 3, 0, 3);
        repo.branch(3);
        Check.state(11, "drop(1), the head", repo, () -> repo.drop(1));
        for (int branch : new int[] {-1, 4, 8, MIN, MAX}) {
            Check.index(11, "drop(" + branch + ")", repo, () -> repo.drop(branch));
        }
        repo.go(0);
        Check.due(11, "drop(3), its commits reached by 1", repo.drop(3), 0);
        Check.due(11, "commitOf(3)", repo.commitOf(3), -2);
        Check.due(11, "drop(1)", repo.drop(1), 2);
        Check.due(11, "isThere(2)", repo.isThere(2), true);
        Check.due(11, "isReached(2)", repo.isReached(2), false);
        Check.due(11, "drop(2), at the head's commit", repo.drop(2), 0);
        Check.index(11, "drop(2) again", repo, () -> repo.drop(2));
        repo.branch(2);
        repo.create(5);
        Check.due(11, "drop(2), not clean", repo.drop(2), 0);
        repo.delete(5);
        repo.branch(2);
        repo.go(2);
        Check.due(11, "drop(0)", repo.drop(0), 0);
        Check.due(11, "commitOf(0)", repo.commitOf(0), -2);
        StrataRepo busy = Make.pendingMerge();
        Check.state(11, "drop(0), pending", busy, () -> busy.drop(0));
        Check.index(11, "drop(5), pending", busy, () -> busy.drop(5));
    }

    private static void reset() {
        StrataRepo repo = Make.chain(3);
        repo.insert(0, 0, 8);
        Check.due(12, "reset(0), not clean", repo.reset(0), 2);
        Check.due(12, "file 0", Make.desk(repo, 0), "0");
        Check.due(12, "commitOf(0)", repo.commitOf(0), 0);
        Check.due(12, "isClean()", repo.isClean(), true);
        Check.due(12, "isReached(2)", repo.isReached(2), false);
        Check.due(12, "reset(1)", repo.reset(1), 0);
        Check.due(12, "reset(1) again", repo.reset(1), 1);
        for (int commit : new int[] {-1, 3, 60, 64, MIN, MAX}) {
            Check.index(12, "reset(" + commit + ")", repo, () -> repo.reset(commit));
        }
        repo.sweep();
        Check.index(12, "reset(2), gone", repo, () -> repo.reset(2));
        StrataRepo empty = new StrataRepo();
        Check.index(12, "reset(0), none made", empty, () -> empty.reset(0));
        StrataRepo busy = Make.pendingMerge();
        Check.state(12, "reset(0), pending", busy, () -> busy.reset(0));
        Check.index(12, "reset(9), pending", busy, () -> busy.reset(9));
    }

    private static void sweep() {
        StrataRepo repo = Make.chain(5);
        Check.due(13, "sweep() of nothing", repo.sweep(), 0);
        repo.branch(1);
        repo.reset(1);
        Check.due(13, "sweep(), all reached by branch 1", repo.sweep(), 0);
        repo.drop(1);
        Check.due(13, "sweep()", repo.sweep(), 3);
        Check.due(13, "isThere(1)", repo.isThere(1), true);
        Check.due(13, "isThere(2)", repo.isThere(2), false);
        Check.due(13, "commits()", repo.commits(), 5);
        Check.due(13, "sweep() again", repo.sweep(), 0);
        Check.due(13, "the next commit", Make.commit(repo, 1, 0, 77), 5);
        Check.due(13, "seek(0, 5)", repo.seek(0, 5), 2);
        Check.due(13, "sweep() in a search", repo.sweep(), 0);
        Check.due(13, "probe()", repo.probe(), -1);
        Check.due(13, "culprit()", repo.culprit(), -1);
        repo.seek(1, 5);
        Check.due(13, "culprit() of one", repo.culprit(), 5);
        repo.insert(0, 0, 3);
        Check.due(13, "sweep(), not clean", repo.sweep(), 0);
        Check.due(13, "culprit() behind it", repo.culprit(), -1);
        Check.due(13, "deskLines(0)", repo.deskLines(0), 2);
        StrataRepo busy = Make.pendingMerge();
        Check.state(13, "sweep(), pending", busy, busy::sweep);
        Check.due(13, "sweep() of a new object", new StrataRepo().sweep(), 0);
    }

    private static void commitsAsked() {
        StrataRepo repo = Make.fork(new int[] {1}, new int[] {1, 2}, new int[] {0, 1});
        Check.due(31, "commits()", repo.commits(), 3);
        Check.due(14, "merge(0)", repo.merge(0), 2);
        Check.due(31, "commits() behind a merge", repo.commits(), 4);
        for (int commit : new int[] {-1, 4, 60, 64, 68, MIN, MAX}) {
            Check.due(32, "isThere(" + commit + ")", repo.isThere(commit), false);
            Check.index(33, "isReached(" + commit + ")", repo, () -> repo.isReached(commit));
            Check.index(34, "parent(" + commit + ", false)", repo, () -> repo.parent(commit, false));
            Check.index(34, "parent(" + commit + ", true)", repo, () -> repo.parent(commit, true));
            Check.index(35, "wordOf(" + commit + ")", repo, () -> repo.wordOf(commit));
            Check.index(36, "lines(" + commit + ", 0)", repo, () -> repo.lines(commit, 0));
            Check.index(37, "lineAt(" + commit + ", 0, 0)", repo, () -> repo.lineAt(commit, 0, 0));
        }
        Check.due(32, "isThere(3)", repo.isThere(3), true);
        Check.due(33, "isReached(1)", repo.isReached(1), true);
        Check.due(34, "parent(3, false)", repo.parent(3, false), 2);
        Check.due(34, "parent(3, true)", repo.parent(3, true), 1);
        Check.due(34, "parent(0, true)", repo.parent(0, true), -1);
        Check.due(35, "wordOf(1)", repo.wordOf(1), 20);
        Check.due(35, "wordOf(3)", repo.wordOf(3), 0);
        Check.due(36, "lines(3, 0)", repo.lines(3, 0), 3);
        Check.due(36, "lines(3, 1)", repo.lines(3, 1), -1);
        Check.due(37, "lineAt(3, 0, 2)", repo.lineAt(3, 0, 2), 2);
        for (int wrong : new int[] {-1, 8, MIN, MAX}) {
            Check.index(36, "lines(0, " + wrong + ")", repo, () -> repo.lines(0, wrong));
            Check.index(37, "lineAt(0, " + wrong + ", 0)", repo, () -> repo.lineAt(0, wrong, 0));
            Check.index(37, "lineAt(0, 0, " + wrong + ")", repo, () -> repo.lineAt(0, 0, wrong));
        }
        Check.index(37, "lineAt(0, 0, 1)", repo, () -> repo.lineAt(0, 0, 1));
        Check.index(37, "lineAt(0, 1, 0)", repo, () -> repo.lineAt(0, 1, 0));
        Check.index(37, "lineAt(0, 1, -1)", repo, () -> repo.lineAt(0, 1, -1));
    }

    private static void goneAsked() {
        StrataRepo repo = Make.chain(3);
        repo.reset(1);
        Check.due(33, "isReached(2), left behind", repo.isReached(2), false);
        Check.due(33, "isReached(0)", repo.isReached(0), true);
        Check.due(35, "wordOf(2), not reached", repo.wordOf(2), 2);
        repo.sweep();
        Check.due(31, "commits() with one gone", repo.commits(), 3);
        Check.due(32, "isThere(2), gone", repo.isThere(2), false);
        Check.due(32, "isThere(1)", repo.isThere(1), true);
        Check.index(33, "isReached(2), gone", repo, () -> repo.isReached(2));
        Check.index(34, "parent(2, false), gone", repo, () -> repo.parent(2, false));
        Check.index(35, "wordOf(2), gone", repo, () -> repo.wordOf(2));
        Check.index(36, "lines(2, 0), gone", repo, () -> repo.lines(2, 0));
        Check.index(37, "lineAt(2, 0, 0), gone", repo, () -> repo.lineAt(2, 0, 0));
    }

    private static void branchesAsked() {
        StrataRepo repo = new StrataRepo();
        Check.due(38, "head()", repo.head(), 0);
        Check.due(39, "commitOf(0), at none", repo.commitOf(0), -1);
        Check.due(39, "commitOf(1)", repo.commitOf(1), -2);
        repo.create(0);
        repo.commit(1);
        repo.branch(6);
        repo.go(6);
        repo.insert(0, 0, 4);
        repo.commit(2);
        Check.due(38, "head() behind go(6)", repo.head(), 6);
        Check.due(39, "commitOf(6)", repo.commitOf(6), 1);
        Check.due(39, "commitOf(0)", repo.commitOf(0), 0);
        for (int branch : new int[] {-1, -2, 1, 7, 8, MIN, MAX}) {
            Check.due(39, "commitOf(" + branch + ")", repo.commitOf(branch), -2);
        }
    }

    public static void main(String[] arguments) {
        commit();
        branch();
        go();
        drop();
        reset();
        sweep();
        commitsAsked();
        goneAsked();
        branchesAsked();
        Check.end();
    }
}
