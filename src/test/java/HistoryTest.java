/** Promises 40 to 47: history. */
public final class HistoryTest {
    private static final int[] NO_COMMITS = {-1, 7, 60, 64, 66, Integer.MIN_VALUE, Integer.MAX_VALUE};

    /**
     * <pre>
     * 0 - 1 - 3 - 5     branch 0: 5 is 3 merged with 4
     *  \ 2 - 4 - 6      branch 1: 6 is 4 merged with 3
     * </pre>
     */
    private static StrataRepo crossed() {
        StrataRepo repo = new StrataRepo();
        Make.file(repo, 0, 1, 2, 3);
        Make.commit(repo, 0, 1, 1);
        repo.branch(1);
        Make.commit(repo, 1, 0, 1, 2, 3, 4);
        repo.go(1);
        Make.commit(repo, 2, 0, 0, 1, 2, 3);
        repo.go(0);
        Make.commit(repo, 3, 0, 1, 2, 3, 4, 5);
        repo.go(1);
        Make.commit(repo, 4, 2, 7);
        repo.branch(2);
        repo.go(0);
        repo.branch(3);
        repo.merge(2);
        repo.go(1);
        repo.merge(3);
        return repo;
    }

    private static void ancestors() {
        StrataRepo repo = crossed();
        Check.due(40, "commits()", repo.commits(), 7);
        boolean[][] wants = new boolean[7][];
        wants[0] = new boolean[] {true, true, true, true, true, true, true};
        wants[1] = new boolean[] {false, true, false, true, false, true, true};
        wants[2] = new boolean[] {false, false, true, false, true, true, true};
        wants[3] = new boolean[] {false, false, false, true, false, true, true};
        wants[4] = new boolean[] {false, false, false, false, true, true, true};
        wants[5] = new boolean[] {false, false, false, false, false, true, false};
        wants[6] = new boolean[] {false, false, false, false, false, false, true};
        for (int a = 0; a < 7; a++) {
            for (int b = 0; b < 7; b++) {
                Check.due(40, "isAncestor(" + a + ", " + b + ")", repo.isAncestor(a, b), wants[a][b]);
            }
        }
    }

    private static void bases() {
        StrataRepo repo = crossed();
        int[][] wants = {{1, 2, 0}, {3, 4, 0}, {5, 6, 4}, {3, 6, 3}, {6, 3, 3}, {5, 5, 5}, {0, 5, 0}, {4, 5, 4}};
        for (int[] want : wants) {
            Check.due(41, "base(" + want[0] + ", " + want[1] + ")", repo.base(want[0], want[1]), want[2]);
            Check.due(41, "base(" + want[1] + ", " + want[0] + ")", repo.base(want[1], want[0]), want[2]);
        }
        int[][] aheads = {{5, 6, 1}, {6, 5, 1}, {5, 0, 6 - 1}, {0, 5, 0}, {3, 4, 2}, {5, 3, 3}, {4, 4, 0}};
        for (int[] want : aheads) {
            Check.due(42, "ahead(" + want[0] + ", " + want[1] + ")", repo.ahead(want[0], want[1]), want[2]);
        }
    }

    private static void depths() {
        StrataRepo repo = crossed();
        int[] wants = {1, 2, 2, 3, 3, 4, 4};
        for (int commit = 0; commit < 7; commit++) {
            Check.due(47, "depthOf(" + commit + ")", repo.depthOf(commit), wants[commit]);
        }
        StrataRepo uneven = Make.fork(new int[] {1, 2, 3}, new int[] {1, 2, 3, 4}, new int[] {0, 1, 2, 3});
        Make.commit(uneven, 4, 0, 9, 1, 2, 3);
        uneven.go(0);
        uneven.merge(1);
        Check.due(47, "depthOf(4), the second parent's row is longer", uneven.depthOf(4), 4);
        uneven.go(1);
        uneven.reset(2);
        Make.commit(uneven, 5, 1, 1);
        uneven.merge(0);
        Check.due(47, "depthOf(6)", uneven.depthOf(6), 5);
        Check.due(47, "depthOf(59)", Make.chain(60).depthOf(59), 60);
    }

    private static void touched() {
        StrataRepo repo = new StrataRepo();
        Make.file(repo, 0, 1, 2);
        Make.file(repo, 1, 3);
        Make.file(repo, 2);
        repo.commit(1);
        Make.file(repo, 0, 2, 1);
        repo.delete(1);
        repo.create(7);
        repo.commit(2);
        Check.due(43, "touched(0, 1)", repo.touched(0, 1), 3);
        Check.due(43, "touched(1, 0)", repo.touched(1, 0), 3);
        Check.due(43, "touched(1, 1)", repo.touched(1, 1), 0);
        repo.delete(2);
        repo.commit(3);
        Check.due(43, "touched(1, 2), a file without lines", repo.touched(1, 2), 1);
    }

    private static void matched() {
        StrataRepo repo = new StrataRepo();
        Make.commit(repo, 1, 0, 1, 2);
        Make.commit(repo, 2, 0, 2, 1);
        Make.commit(repo, 3, 0, 2, 3, 1, 2);
        repo.delete(0);
        repo.create(1);
        repo.commit(4);
        Check.due(45, "pairOf(0, 1, 0, 0), as long either way", repo.pairOf(0, 1, 0, 0), -1);
        Check.due(45, "pairOf(0, 1, 0, 1)", repo.pairOf(0, 1, 0, 1), 0);
        Check.due(44, "added(0, 1, 0)", repo.added(0, 1, 0), 1);
        Check.due(45, "pairOf(0, 2, 0, 0)", repo.pairOf(0, 2, 0, 0), 2);
        Check.due(45, "pairOf(0, 2, 0, 1)", repo.pairOf(0, 2, 0, 1), 3);
        Check.due(44, "added(0, 2, 0)", repo.added(0, 2, 0), 2);
        Check.due(44, "added(2, 0, 0)", repo.added(2, 0, 0), 0);
        Check.due(45, "pairOf(2, 0, 0, 0)", repo.pairOf(2, 0, 0, 0), -1);
        Check.due(44, "added(0, 0, 0)", repo.added(0, 0, 0), 0);
        Check.due(44, "added(0, 3, 0), not there", repo.added(0, 3, 0), 0);
        Check.due(44, "added(3, 2, 0), not there ahead", repo.added(3, 2, 0), 4);
        Check.due(44, "added(0, 1, 5), in none", repo.added(0, 1, 5), 0);
        Check.due(45, "pairOf(0, 3, 0, 1), not there", repo.pairOf(0, 3, 0, 1), -1);
        for (int wrong : new int[] {-1, 8, Integer.MIN_VALUE, Integer.MAX_VALUE}) {
            Check.index(44, "added(0, 1, " + wrong + ")", repo, () -> repo.added(0, 1, wrong));
            Check.index(45, "pairOf(0, 1, " + wrong + ", 0)", repo, () -> repo.pairOf(0, 1, wrong, 0));
            Check.index(45, "pairOf(0, 1, 0, " + wrong + ")", repo, () -> repo.pairOf(0, 1, 0, wrong));
        }
        Check.index(45, "pairOf(0, 2, 0, 2), a place in b alone", repo, () -> repo.pairOf(0, 2, 0, 2));
        Check.index(45, "pairOf(3, 0, 0, 0), not in a", repo, () -> repo.pairOf(3, 0, 0, 0));
        Check.index(45, "pairOf(3, 3, 1, 0), no lines", repo, () -> repo.pairOf(3, 3, 1, 0));
    }

    /** Lines that come again, and a pair at the very end of forty lines. */
    private static void matchedAtTheEdges() {
        StrataRepo repo = new StrataRepo();
        Make.commit(repo, 1, 0, 2, 1);
        Make.commit(repo, 2, 0, 1, 1);
        Check.due(45, "pairOf(0, 1, 0, 1), the first of both", repo.pairOf(0, 1, 0, 1), 0);
        Check.due(44, "added(0, 1, 0)", repo.added(0, 1, 0), 1);
        Check.due(45, "pairOf(1, 0, 0, 0), as long without it", repo.pairOf(1, 0, 0, 0), -1);
        Check.due(45, "pairOf(1, 0, 0, 1)", repo.pairOf(1, 0, 0, 1), 1);
        Make.commit(repo, 3, 0, Make.row(100, 40));
        Make.commit(repo, 4, 0, 9, 139);
        Check.due(45, "pairOf(2, 3, 0, 39)", repo.pairOf(2, 3, 0, 39), 1);
        Check.due(45, "pairOf(3, 2, 0, 1)", repo.pairOf(3, 2, 0, 1), 39);
        Check.due(44, "added(2, 3, 0)", repo.added(2, 3, 0), 1);
        Check.due(44, "added(3, 2, 0)", repo.added(3, 2, 0), 39);
        Make.commit(repo, 5, 0, Make.row(101, 40));
        Check.due(45, "pairOf(2, 4, 0, 0)", repo.pairOf(2, 4, 0, 0), -1);
        Check.due(45, "pairOf(2, 4, 0, 39)", repo.pairOf(2, 4, 0, 39), 38);
        Check.due(44, "added(2, 4, 0)", repo.added(2, 4, 0), 1);
        Make.commit(repo, 6, 0, 3, 4, 3, 4, 5, 3);
        Make.commit(repo, 7, 0, 4, 5, 3, 3, 4, 5);
        // L(1, 0) is 4, by 4 3 4 5, and so is L(0, 1), by 3 3 4 5: so the 3 at the top is REMOVED.
        int[] wants = {-1, 0, 2, 4, 5, -1};
        for (int place = 0; place < 6; place++) {
            Check.due(45, "pairOf(5, 6, 0, " + place + ")", repo.pairOf(5, 6, 0, place), wants[place]);
        }
    }

    private static void blame() {
        StrataRepo repo = new StrataRepo();
        Make.commit(repo, 0, 0, 1, 2, 3);
        repo.branch(1);
        Make.commit(repo, 1, 0, 1, 2, 3, 4);
        repo.go(1);
        Make.commit(repo, 2, 0, 0, 1, 2, 3);
        repo.merge(0);
        int[] wants = {2, 0, 0, 0, 1};
        for (int place = 0; place < 5; place++) {
            Check.due(46, "blame(3, 0, " + place + ")", repo.blame(3, 0, place), wants[place]);
        }
        Check.due(46, "blame(0, 0, 2)", repo.blame(0, 0, 2), 0);
        repo.delete(0);
        repo.commit(4);
        Make.commit(repo, 5, 0, 1, 2);
        Check.due(46, "blame(5, 0, 0), the parent had no file", repo.blame(5, 0, 0), 5);
        for (int wrong : new int[] {-1, 8, Integer.MIN_VALUE, Integer.MAX_VALUE}) {
            Check.index(46, "blame(0, " + wrong + ", 0)", repo, () -> repo.blame(0, wrong, 0));
            Check.index(46, "blame(0, 0, " + wrong + ")", repo, () -> repo.blame(0, 0, wrong));
        }
        Check.index(46, "blame(0, 0, 3)", repo, () -> repo.blame(0, 0, 3));
        Check.index(46, "blame(0, 1, 0), no such file", repo, () -> repo.blame(0, 1, 0));
        Check.index(46, "blame(4, 0, 0), no such file", repo, () -> repo.blame(4, 0, 0));
    }

    /** The first parent goes ahead of the second one, and a line may move up and down. */
    private static void blameParents() {
        StrataRepo repo = Make.fork(new int[] {5}, new int[] {5, 6}, new int[] {5, 6});
        repo.merge(0);
        Check.due(46, "blame(3, 0, 1), both parents have it", repo.blame(3, 0, 1), 2);
        StrataRepo other = Make.fork(new int[] {5}, new int[] {5, 6}, new int[] {7});
        other.merge(0);
        other.settle(0, 2);
        other.goOn();
        Check.due(46, "file 0", Make.desk(other, 0), "7 5 6");
        Check.due(46, "blame(3, 0, 0)", other.blame(3, 0, 0), 2);
        Check.due(46, "blame(3, 0, 1), by the second parent", other.blame(3, 0, 1), 0);
        Check.due(46, "blame(3, 0, 2)", other.blame(3, 0, 2), 1);
        StrataRepo chain = new StrataRepo();
        Make.commit(chain, 0, 0, 500);
        for (int n = 1; n < 60; n++) {
            Make.commit(chain, n, 0, n % 2 == 0 ? new int[] {500} : new int[] {n, 500});
        }
        Check.due(46, "blame(59, 0, 1), through 60 commits", chain.blame(59, 0, 1), 0);
        Check.due(46, "blame(59, 0, 0)", chain.blame(59, 0, 0), 59);
    }

    private static void wrongCommits() {
        for (int wrong : NO_COMMITS) {
            wrongCommit(crossed(), wrong);
        }
        StrataRepo swept = Make.chain(8);
        swept.reset(6);
        swept.sweep();
        wrongCommit(swept, 7);
    }

    private static void wrongCommit(StrataRepo repo, int wrong) {
        String one = "(" + wrong + ", 0";
        String other = "(0, " + wrong;
        Check.index(40, "isAncestor" + one + ")", repo, () -> repo.isAncestor(wrong, 0));
        Check.index(40, "isAncestor" + other + ")", repo, () -> repo.isAncestor(0, wrong));
        Check.index(41, "base" + one + ")", repo, () -> repo.base(wrong, 0));
        Check.index(41, "base" + other + ")", repo, () -> repo.base(0, wrong));
        Check.index(42, "ahead" + one + ")", repo, () -> repo.ahead(wrong, 0));
        Check.index(42, "ahead" + other + ")", repo, () -> repo.ahead(0, wrong));
        Check.index(43, "touched" + one + ")", repo, () -> repo.touched(wrong, 0));
        Check.index(43, "touched" + other + ")", repo, () -> repo.touched(0, wrong));
        Check.index(44, "added" + one + ", 0)", repo, () -> repo.added(wrong, 0, 0));
        Check.index(44, "added" + other + ", 0)", repo, () -> repo.added(0, wrong, 0));
        Check.index(45, "pairOf" + one + ", 0, 0)", repo, () -> repo.pairOf(wrong, 0, 0, 0));
        Check.index(45, "pairOf" + other + ", 0, 0)", repo, () -> repo.pairOf(0, wrong, 0, 0));
        Check.index(46, "blame" + one + ", 0)", repo, () -> repo.blame(wrong, 0, 0));
        Check.index(47, "depthOf(" + wrong + ")", repo, () -> repo.depthOf(wrong));
    }

    public static void main(String[] arguments) {
        ancestors();
        bases();
        depths();
        touched();
        matched();
        matchedAtTheEdges();
        blame();
        blameParents();
        wrongCommits();
        Check.end();
    }
}
