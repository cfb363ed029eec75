/** Promises 14 to 24: merging, carrying, replaying. */
public final class WorkTest {
    private static final int MIN = Integer.MIN_VALUE;
    private static final int MAX = Integer.MAX_VALUE;
    private static final int[] NO_BRANCHES = {-1, 5, 8, MIN, MAX};
    private static final int[] NO_COMMITS = {-1, 3, 60, 64, MIN, MAX};

    /** 60 commits: a chain of 58, then one more on each of the branches 0 and 1; branch 1 is the HEAD. */
    private static StrataRepo full() {
        StrataRepo repo = Make.chain(58);
        repo.branch(1);
        Make.commit(repo, 58, 1, 1);
        repo.go(1);
        Make.commit(repo, 59, 2, 2);
        return repo;
    }

    private static void merge() {
        StrataRepo repo = Make.fork(new int[] {1, 2, 3}, new int[] {1, 2, 3, 4}, new int[] {0, 1, 2, 3});
        Check.due(14, "merge(1), the head itself", repo.merge(1), 0);
        Check.due(14, "commits()", repo.commits(), 3);
        Check.due(14, "merge(0)", repo.merge(0), 2);
        Check.due(14, "file 0", Make.lines(repo, 3, 0), "0 1 2 3 4");
        Check.due(14, "the desk", Make.desk(repo, 0), "0 1 2 3 4");
        Check.due(14, "first parent", repo.parent(3, false), 2);
        Check.due(14, "second parent", repo.parent(3, true), 1);
        Check.due(14, "word", repo.wordOf(3), 0);
        Check.due(14, "commitOf(1)", repo.commitOf(1), 3);
        Check.due(14, "commitOf(0)", repo.commitOf(0), 1);
        Check.due(14, "head()", repo.head(), 1);
        Check.due(14, "merge(0) again", repo.merge(0), 0);
        repo.go(0);
        Check.due(14, "merge(1), ahead", repo.merge(1), 1);
        Check.due(14, "commitOf(0)", repo.commitOf(0), 3);
        Check.due(14, "the desk", Make.desk(repo, 0), "0 1 2 3 4");
        Check.due(14, "commits()", repo.commits(), 4);
        for (int branch : NO_BRANCHES) {
            Check.index(14, "merge(" + branch + ")", repo, () -> repo.merge(branch));
        }
        repo.create(5);
        Check.state(14, "merge(1), not clean", repo, () -> repo.merge(1));
        Check.index(14, "merge(2), not clean", repo, () -> repo.merge(2));
        StrataRepo empty = new StrataRepo();
        Check.state(14, "merge(0), at no commit", empty, () -> empty.merge(0));
        StrataRepo busy = Make.pendingMerge();
        Check.state(14, "merge(0), pending", busy, () -> busy.merge(0));
        Check.index(14, "merge(3), pending", busy, () -> busy.merge(3));
        StrataRepo full = full();
        Check.state(14, "merge(0), 60 made", full, () -> full.merge(0));
        Check.state(14, "merge(1), 60 made, nothing to do", full, () -> full.merge(1));
        Check.index(14, "merge(2), 60 made", full, () -> full.merge(2));
    }

    private static void mergeFirstCommit() {
        StrataRepo repo = Make.chain(1);
        repo.branch(1);
        Check.due(14, "merge(1), both at commit 0", repo.merge(1), 0);
        Check.due(17, "replay(1), both at commit 0", repo.replay(1), 0);
        Make.commit(repo, 1, 0, 7);
        Check.due(14, "merge(1), at commit 0", repo.merge(1), 0);
        repo.go(1);
        Check.due(17, "replay(0), from commit 0", repo.replay(0), 1);
        Check.due(17, "commitOf(1)", repo.commitOf(1), 1);
    }

    private static void mergeAsOurs() {
        StrataRepo repo = Make.fork(new int[] {1}, new int[] {2}, new int[] {2});
        Check.due(14, "merge(0), as ours", repo.merge(0), 2);
        Check.due(14, "touched(2, 3)", repo.touched(2, 3), 0);
        Check.due(14, "second parent", repo.parent(3, true), 1);
    }

    /** The BASE of a merge is the newest common commit, not the first one. */
    private static void mergeTwice() {
        StrataRepo repo = Make.fork(new int[] {1, 2, 3}, new int[] {1, 2, 3, 4}, new int[] {0, 1, 2, 3});
        repo.merge(0);
        Make.commit(repo, 4, 0, 9, 1, 2, 3, 4);
        repo.go(0);
        Make.commit(repo, 5, 0, 1, 2, 3, 8);
        Check.due(14, "merge(1)", repo.merge(1), 2);
        Check.due(14, "file 0", Make.desk(repo, 0), "9 1 2 3 8");
        Check.due(14, "base(4, 5)", repo.base(4, 5), 1);
    }

    private static void mergePending() {
        StrataRepo repo = Make.clash();
        Check.due(14, "merge(0)", repo.merge(0), 3);
        Check.due(21, "pending()", repo.pending(), 1);
        Check.due(22, "conflicts()", repo.conflicts(), 1);
        Check.due(23, "unsettled()", repo.unsettled(), 1);
        Check.due(24, "left()", repo.left(), 0);
        Check.due(14, "commits()", repo.commits(), 3);
        Check.due(14, "commitOf(1)", repo.commitOf(1), 2);
        Check.state(19, "goOn(), not settled", repo, repo::goOn);
        Check.due(18, "settle(0, 2)", repo.settle(0, 2), 0);
        Check.due(23, "unsettled()", repo.unsettled(), 0);
        Check.due(22, "conflicts()", repo.conflicts(), 1);
        Check.due(18, "settle(0, 1) again", repo.settle(0, 1), 0);
        Check.due(18, "settle(0, 2) again", repo.settle(0, 2), 0);
        Check.due(19, "goOn()", repo.goOn(), 2);
        Check.due(19, "file 0", Make.lines(repo, 3, 0), "1 5 4 3");
        Check.due(19, "desk", Make.desk(repo, 0), "1 5 4 3");
        Check.due(19, "first parent", repo.parent(3, false), 2);
        Check.due(19, "second parent", repo.parent(3, true), 1);
        Check.due(19, "word", repo.wordOf(3), 0);
        Check.due(19, "commitOf(1)", repo.commitOf(1), 3);
        Check.due(21, "pending()", repo.pending(), 0);
        Check.due(22, "conflicts()", repo.conflicts(), 0);
        Check.due(23, "unsettled()", repo.unsettled(), 0);
        Check.state(19, "goOn(), nothing pending", repo, repo::goOn);
        StrataRepo ours = Make.pendingMerge();
        ours.settle(0, 0);
        Check.due(19, "goOn(), settled as ours", ours.goOn(), 2);
        Check.due(19, "touched(2, 3)", ours.touched(2, 3), 0);
    }

    private static void carry() {
        StrataRepo repo = Make.fork(new int[] {1, 2, 3}, new int[] {1, 2, 3, 4}, new int[] {0, 1, 2, 3});
        Check.due(15, "carry(1)", repo.carry(1), 2);
        Check.due(15, "file 0", Make.desk(repo, 0), "0 1 2 3 4");
        Check.due(15, "parent", repo.parent(3, false), 2);
        Check.due(15, "second parent", repo.parent(3, true), -1);
        Check.due(15, "word", repo.wordOf(3), 20);
        Check.due(15, "commitOf(1)", repo.commitOf(1), 3);
        Check.due(15, "carry(1) again", repo.carry(1), 0);
        Check.due(15, "commits()", repo.commits(), 4);
        Check.due(15, "carry(3), the head's own", repo.carry(3), 0);
        for (int commit : new int[] {-1, 4, 60, 64, MIN, MAX}) {
            Check.index(15, "carry(" + commit + ")", repo, () -> repo.carry(commit));
        }
        repo.create(5);
        Check.state(15, "carry(1), not clean", repo, () -> repo.carry(1));
        Check.index(15, "carry(4), not clean", repo, () -> repo.carry(4));
        StrataRepo busy = Make.pendingMerge();
        Check.state(15, "carry(1), pending", busy, () -> busy.carry(1));
        Check.index(15, "carry(3), pending", busy, () -> busy.carry(3));
        StrataRepo full = full();
        Check.state(15, "carry(58), 60 made", full, () -> full.carry(58));
        Check.state(15, "carry(59), 60 made, nothing to do", full, () -> full.carry(59));
        StrataRepo empty = new StrataRepo();
        Check.index(15, "carry(0), none made", empty, () -> empty.carry(0));
        StrataRepo swept = Make.chain(3);
        swept.reset(1);
        swept.sweep();
        Check.index(15, "carry(2), gone", swept, () -> swept.carry(2));
    }

    private static void carryFirst() {
        StrataRepo repo = Make.chain(1);
        repo.delete(0);
        Make.commit(repo, 9, 1, 7);
        Check.due(15, "carry(0), no parent", repo.carry(0), 2);
        Check.due(15, "file 0", Make.desk(repo, 0), "0");
        Check.due(15, "file 1", Make.desk(repo, 1), "7");
    }

    private static void carryPending() {
        StrataRepo repo = Make.clash();
        Check.due(15, "carry(1)", repo.carry(1), 3);
        Check.due(21, "pending()", repo.pending(), 2);
        Check.due(24, "left()", repo.left(), 0);
        repo.settle(0, 0);
        Check.due(19, "goOn(), as ours", repo.goOn(), 0);
        Check.due(19, "commits()", repo.commits(), 3);
        Check.due(19, "pending()", repo.pending(), 0);
        Check.due(15, "carry(1)", repo.carry(1), 3);
        Check.due(23, "unsettled(), begun again", repo.unsettled(), 1);
        repo.settle(0, 1);
        Check.due(19, "goOn(), as theirs", repo.goOn(), 2);
        Check.due(19, "file 0", Make.desk(repo, 0), "1 4 3");
        Check.due(19, "word", repo.wordOf(3), 20);
        Check.due(19, "parent", repo.parent(3, false), 2);
        Check.due(19, "second parent", repo.parent(3, true), -1);
    }

    /** A merge commit is carried over by its first parent. */
    private static void carryMerge() {
        StrataRepo repo = Make.fork(new int[] {1, 2, 3}, new int[] {1, 2, 3, 4}, new int[] {0, 1, 2, 3});
        repo.merge(0);
        repo.branch(2);
        repo.reset(0);
        Check.due(15, "carry(3)", repo.carry(3), 2);
        Check.due(15, "file 0", Make.desk(repo, 0), "1 2 3 4");
        Check.due(15, "word", repo.wordOf(4), 0);
        Check.due(15, "second parent", repo.parent(4, true), -1);
        repo.reset(3);
        Check.due(16, "takeBack(3)", repo.takeBack(3), 2);
        Check.due(16, "file 0", Make.desk(repo, 0), "0 1 2 3");
    }

    private static void takeBack() {
        StrataRepo repo = new StrataRepo();
        Make.commit(repo, 1, 0, 1, 2, 3);
        Make.commit(repo, 2, 0, 1, 2, 9, 3);
        Make.commit(repo, 3, 0, 7, 1, 2, 9, 3);
        Check.due(16, "takeBack(1)", repo.takeBack(1), 2);
        Check.due(16, "file 0", Make.desk(repo, 0), "7 1 2 3");
        Check.due(16, "word", repo.wordOf(3), 2);
        Check.due(16, "parent", repo.parent(3, false), 2);
        Check.due(16, "second parent", repo.parent(3, true), -1);
        Check.due(16, "commitOf(0)", repo.commitOf(0), 3);
        Check.due(16, "takeBack(1) again", repo.takeBack(1), 0);
        Check.due(16, "commits()", repo.commits(), 4);
        repo.reset(0);
        Check.due(16, "takeBack(0), no parent", repo.takeBack(0), 2);
        Check.due(16, "file 0", Make.desk(repo, 0), "none");
        Check.due(16, "word", repo.wordOf(4), 1);
        for (int commit : new int[] {-1, 5, 60, 64, MIN, MAX}) {
            Check.index(16, "takeBack(" + commit + ")", repo, () -> repo.takeBack(commit));
        }
        repo.create(5);
        Check.state(16, "takeBack(1), not clean", repo, () -> repo.takeBack(1));
        Check.index(16, "takeBack(5), not clean", repo, () -> repo.takeBack(5));
        StrataRepo busy = Make.pendingMerge();
        Check.state(16, "takeBack(1), pending", busy, () -> busy.takeBack(1));
        StrataRepo full = full();
        Check.state(16, "takeBack(59), 60 made", full, () -> full.takeBack(59));
        StrataRepo empty = new StrataRepo();
        Check.index(16, "takeBack(0), none made", empty, () -> empty.takeBack(0));
    }

    private static void takeBackPending() {
        StrataRepo repo = new StrataRepo();
        Make.commit(repo, 1, 0, 1, 2, 3);
        Make.commit(repo, 2, 0, 1, 4, 3);
        Make.commit(repo, 3, 0, 1, 5, 3);
        Check.due(16, "takeBack(1)", repo.takeBack(1), 3);
        Check.due(21, "pending()", repo.pending(), 3);
        Check.due(26, "ours", repo.pieceLine(0, 0, 0), 5);
        Check.due(26, "theirs, the parent's", repo.pieceLine(0, 1, 0), 2);
        Check.due(26, "base, the commit's", repo.pieceLine(0, 2, 0), 4);
        repo.settle(0, 3);
        Check.due(19, "goOn()", repo.goOn(), 2);
        Check.due(19, "file 0", Make.desk(repo, 0), "1 4 3");
        Check.due(19, "word", repo.wordOf(3), 2);
        Check.due(16, "takeBack(2), as ours already", repo.takeBack(2), 0);
        Check.due(16, "takeBack(1)", repo.takeBack(1), 2);
        Check.due(16, "file 0", Make.desk(repo, 0), "1 2 3");
    }

    /** Branch 1, the HEAD, has the commits 2 and 3 that branch 0 (commit 1) has not. */
    private static StrataRepo twoToReplay(int[] second, int[] third) {
        StrataRepo repo = Make.fork(new int[] {1, 2, 3, 4, 5}, new int[] {1, 2, 3, 4, 6}, second);
        Make.commit(repo, 40, 0, third);
        return repo;
    }

    private static void replay() {
        StrataRepo repo = twoToReplay(new int[] {0, 1, 2, 3, 4, 5}, new int[] {0, 1, 2, 9, 3, 4, 5});
        Check.due(17, "replay(1), itself", repo.replay(1), 0);
        Check.due(17, "replay(0)", repo.replay(0), 2);
        Check.due(17, "commits()", repo.commits(), 6);
        Check.due(17, "head()", repo.head(), 1);
        Check.due(17, "commitOf(1)", repo.commitOf(1), 5);
        Check.due(17, "commitOf(0)", repo.commitOf(0), 1);
        Check.due(17, "commit 4", Make.lines(repo, 4, 0), "0 1 2 3 4 6");
        Check.due(17, "commit 5", Make.lines(repo, 5, 0), "0 1 2 9 3 4 6");
        Check.due(17, "the desk", Make.desk(repo, 0), "0 1 2 9 3 4 6");
        Check.due(17, "parent(4, false)", repo.parent(4, false), 1);
        Check.due(17, "parent(5, false)", repo.parent(5, false), 4);
        Check.due(17, "wordOf(4)", repo.wordOf(4), 30);
        Check.due(17, "wordOf(5)", repo.wordOf(5), 40);
        Check.due(17, "isReached(3)", repo.isReached(3), false);
        Check.due(17, "replay(0) again", repo.replay(0), 0);
        repo.go(0);
        Check.due(17, "replay(1), ahead", repo.replay(1), 1);
        Check.due(17, "commitOf(0)", repo.commitOf(0), 5);
        Check.due(17, "the desk", Make.desk(repo, 0), "0 1 2 9 3 4 6");
        for (int branch : NO_BRANCHES) {
            Check.index(17, "replay(" + branch + ")", repo, () -> repo.replay(branch));
        }
        repo.create(5);
        Check.state(17, "replay(1), not clean", repo, () -> repo.replay(1));
        Check.index(17, "replay(5), not clean", repo, () -> repo.replay(5));
        StrataRepo empty = new StrataRepo();
        Check.state(17, "replay(0), at no commit", empty, () -> empty.replay(0));
        StrataRepo busy = Make.pendingMerge();
        Check.state(17, "replay(0), pending", busy, () -> busy.replay(0));
        Check.index(17, "replay(2), pending", busy, () -> busy.replay(2));
    }

    private static void replaySame() {
        StrataRepo repo = Make.fork(new int[] {1}, new int[] {2}, new int[] {2});
        Check.due(17, "replay(0), of what is there", repo.replay(0), 1);
        Check.due(17, "commitOf(1)", repo.commitOf(1), 1);
        Check.due(17, "commits()", repo.commits(), 3);
    }

    private static void replayWithoutMerges() {
        StrataRepo repo = Make.fork(new int[] {1, 2, 3}, new int[] {1, 2, 3, 4}, new int[] {0, 1, 2, 3});
        repo.go(0);
        repo.branch(2);
        repo.go(1);
        repo.merge(0);
        Make.commit(repo, 50, 1, 7);
        repo.go(0);
        repo.reset(0);
        Make.commit(repo, 60, 2, 8);
        repo.go(1);
        Check.due(17, "replay(0), over a merge", repo.replay(0), 2);
        Check.due(17, "commits()", repo.commits(), 9);
        Check.due(17, "wordOf(6)", repo.wordOf(6), 20);
        Check.due(17, "wordOf(7)", repo.wordOf(7), 30);
        Check.due(17, "wordOf(8)", repo.wordOf(8), 50);
        Check.due(17, "file 0", Make.desk(repo, 0), "0 1 2 3 4");
        Check.due(17, "file 2", Make.desk(repo, 2), "8");
    }

    /** A merge settled by a way of its own: carried over, it would be in CONFLICT, or be a commit. */
    private static void replayOverSettledMerge() {
        StrataRepo repo = Make.clash();
        repo.merge(0);
        repo.settle(0, 3);
        repo.goOn();
        repo.go(0);
        repo.reset(0);
        Make.commit(repo, 60, 2, 8);
        repo.go(1);
        Check.due(17, "replay(0)", repo.replay(0), 3);
        Check.due(17, "commits()", repo.commits(), 6);
        Check.due(24, "left(), without the merge", repo.left(), 0);
        repo.settle(0, 0);
        Check.due(19, "goOn()", repo.goOn(), 2);
        Check.due(19, "commits()", repo.commits(), 6);
        Check.due(19, "file 0", Make.desk(repo, 0), "1 4 3");
    }

    /** The one commit that a replay makes is the one that was in CONFLICT. */
    private static void replayMadeByGoOn() {
        StrataRepo repo = Make.clash();
        Check.due(17, "replay(0)", repo.replay(0), 3);
        repo.settle(0, 1);
        Check.due(19, "goOn()", repo.goOn(), 2);
        Check.due(19, "commits()", repo.commits(), 4);
        Check.due(19, "file 0", Make.desk(repo, 0), "1 5 3");
        Check.due(19, "word", repo.wordOf(3), 30);
        Check.due(19, "parent", repo.parent(3, false), 1);
    }

    private static void replayRoom() {
        StrataRepo repo = Make.chain(56);
        repo.branch(1);
        Make.commit(repo, 56, 1, 1);
        repo.go(1);
        Make.commit(repo, 57, 2, 2);
        Make.commit(repo, 58, 3, 3);
        Check.state(17, "replay(0), 59 made, 2 to carry", repo, () -> repo.replay(0));
        repo.reset(57);
        Check.due(17, "replay(0), 59 made, 1 to carry", repo.replay(0), 2);
        Check.due(17, "commits()", repo.commits(), 60);
        Check.due(17, "replay(0), 60 made, nothing to do", repo.replay(0), 0);
        repo.go(0);
        Check.due(17, "replay(1), 60 made, none to carry", repo.replay(1), 1);
        Check.due(17, "commitOf(0)", repo.commitOf(0), 59);
    }

    private static void replayPending() {
        StrataRepo repo = twoToReplay(new int[] {1, 2, 3, 4, 7}, new int[] {0, 1, 2, 3, 4, 7});
        Check.due(17, "replay(0)", repo.replay(0), 3);
        Check.due(21, "pending()", repo.pending(), 4);
        Check.due(24, "left()", repo.left(), 1);
        Check.due(17, "commitOf(1)", repo.commitOf(1), 1);
        Check.due(17, "the desk", Make.desk(repo, 0), "1 2 3 4 6");
        Check.due(17, "isClean()", repo.isClean(), true);
        Check.due(17, "isReached(3), pending", repo.isReached(3), false);
        Check.due(17, "commits()", repo.commits(), 4);
        repo.settle(0, 1);
        Check.due(19, "goOn()", repo.goOn(), 2);
        Check.due(19, "commit 4", Make.lines(repo, 4, 0), "1 2 3 4 7");
        Check.due(19, "commit 5", Make.lines(repo, 5, 0), "0 1 2 3 4 7");
        Check.due(19, "commitOf(1)", repo.commitOf(1), 5);
        Check.due(21, "pending()", repo.pending(), 0);
        Check.due(24, "left()", repo.left(), 0);
    }

    private static void replayPendingTwice() {
        StrataRepo repo = twoToReplay(new int[] {1, 2, 3, 4, 7}, new int[] {1, 2, 3, 4, 8});
        Check.due(17, "replay(0)", repo.replay(0), 3);
        repo.settle(0, 0);
        Check.due(19, "goOn(), a conflict again", repo.goOn(), 3);
        Check.due(19, "commits()", repo.commits(), 4);
        Check.due(21, "pending()", repo.pending(), 4);
        Check.due(23, "unsettled()", repo.unsettled(), 1);
        Check.due(24, "left()", repo.left(), 0);
        Check.due(26, "theirs", repo.pieceLine(0, 1, 0), 8);
        Check.due(26, "base", repo.pieceLine(0, 2, 0), 7);
        repo.settle(0, 0);
        Check.due(19, "goOn(), none made", repo.goOn(), 1);
        Check.due(19, "commitOf(1)", repo.commitOf(1), 1);
        Check.due(19, "commits()", repo.commits(), 4);
    }

    /** A commit is made ahead of the one in CONFLICT, and that one is settled as ours. */
    private static void replayMadeAhead() {
        StrataRepo repo = twoToReplay(new int[] {0, 1, 2, 3, 4, 5}, new int[] {0, 1, 2, 3, 4, 7});
        Check.due(17, "replay(0)", repo.replay(0), 3);
        Check.due(17, "commits()", repo.commits(), 5);
        Check.due(17, "commitOf(1)", repo.commitOf(1), 4);
        Check.due(24, "left()", repo.left(), 0);
        Check.due(26, "ours", repo.pieceLine(0, 0, 0), 6);
        repo.settle(0, 0);
        Check.due(19, "goOn(), made ahead", repo.goOn(), 2);
        Check.due(19, "commits()", repo.commits(), 5);
        StrataRepo other = twoToReplay(new int[] {0, 1, 2, 3, 4, 5}, new int[] {0, 1, 2, 3, 4, 7});
        other.replay(0);
        Check.due(20, "giveUp()", other.giveUp(), 1);
        Check.due(20, "commitOf(1)", other.commitOf(1), 3);
        Check.due(20, "the desk", Make.desk(other, 0), "0 1 2 3 4 7");
        Check.due(20, "commits()", other.commits(), 5);
        Check.due(20, "isThere(4)", other.isThere(4), true);
        Check.due(20, "isReached(4)", other.isReached(4), false);
    }

    /** What a replay made must not count for the next one. */
    private static void replayAfterReplay() {
        StrataRepo repo = twoToReplay(new int[] {0, 1, 2, 3, 4, 5}, new int[] {0, 1, 2, 9, 3, 4, 5});
        repo.replay(0);
        repo.go(0);
        Make.commit(repo, 70, 0, 1, 2, 3, 4, 8);
        repo.branch(2);
        repo.go(2);
        repo.reset(1);
        Make.commit(repo, 71, 0, 1, 2, 3, 4, 8);
        Check.due(17, "replay(0), none made", repo.replay(0), 1);
    }

    private static void settle() {
        StrataRepo idle = Make.clash();
        Check.state(18, "settle(0, 0), nothing pending", idle, () -> idle.settle(0, 0));
        Check.state(18, "settle(-1, 9), nothing pending", idle, () -> idle.settle(-1, 9));
        StrataRepo repo = Make.fork(new int[] {1, 2, 3}, new int[] {4, 2, 5}, new int[] {6, 2, 7});
        repo.merge(0);
        Check.due(18, "conflicts()", repo.conflicts(), 2);
        for (int conflict : new int[] {-1, 2, MIN, MAX}) {
            Check.index(18, "settle(" + conflict + ", 0)", repo, () -> repo.settle(conflict, 0));
            Check.index(18, "settle(" + conflict + ", 4)", repo, () -> repo.settle(conflict, 4));
        }
        for (int way : new int[] {-1, 4, MIN, MAX}) {
            Check.argument(18, "settle(0, " + way + ")", repo, () -> repo.settle(0, way));
        }
        Check.due(18, "settle(1, 1)", repo.settle(1, 1), 1);
        Check.due(18, "settle(1, 0)", repo.settle(1, 0), 1);
        Check.due(23, "unsettled()", repo.unsettled(), 1);
        Check.state(19, "goOn(), one not settled", repo, repo::goOn);
        Check.argument(18, "settle(1, -1), settled", repo, () -> repo.settle(1, -1));
        Check.due(18, "settle(0, 3)", repo.settle(0, 3), 0);
        Check.due(19, "goOn()", repo.goOn(), 2);
        Check.due(19, "file 0", Make.desk(repo, 0), "1 2 7");
        Check.state(18, "settle(0, 0), done", repo, () -> repo.settle(0, 0));
    }

    private static void giveUp() {
        StrataRepo idle = Make.clash();
        Check.state(20, "giveUp(), nothing pending", idle, idle::giveUp);
        Check.state(19, "goOn(), nothing pending", idle, idle::goOn);
        StrataRepo repo = Make.fork(new int[] {1, 2, 3}, new int[] {4, 2, 5}, new int[] {6, 2, 7});
        repo.merge(0);
        Check.due(20, "giveUp() of a merge", repo.giveUp(), 2);
        Check.due(20, "pending()", repo.pending(), 0);
        Check.due(20, "conflicts()", repo.conflicts(), 0);
        Check.due(20, "commitOf(1)", repo.commitOf(1), 2);
        Check.due(20, "commits()", repo.commits(), 3);
        repo.carry(1);
        repo.settle(0, 1);
        Check.due(20, "giveUp() of a commit carried over", repo.giveUp(), 1);
        repo.carry(1);
        Check.due(23, "unsettled(), begun again", repo.unsettled(), 2);
        repo.settle(0, 1);
        repo.settle(1, 1);
        Check.due(20, "giveUp(), all settled", repo.giveUp(), 0);
        repo.replay(0);
        Check.due(20, "commitOf(1), in the replay", repo.commitOf(1), 1);
        Check.due(20, "giveUp() of a replay", repo.giveUp(), 2);
        Check.due(20, "commitOf(1)", repo.commitOf(1), 2);
        Check.due(20, "the desk", Make.desk(repo, 0), "6 2 7");
        Check.due(24, "left()", repo.left(), 0);
        repo.insert(0, 0, 9);
        Check.due(20, "commit() behind giveUp()", repo.commit(1), 3);
        Check.due(20, "parent(3, false)", repo.parent(3, false), 2);
    }

    /** What must be refused while WORK is PENDING, and what must not, for each kind of WORK. */
    private static void refused(int kind) {
        StrataRepo repo = Make.clash();
        int answer = kind == 1 ? repo.merge(0) : kind == 2 ? repo.carry(1) : kind == 4 ? repo.replay(0) : 0;
        if (kind == 3) {
            Make.commit(repo, 9, 0, 1, 8, 3);
            answer = repo.takeBack(2);
        }
        Check.due(21, "answer of the work " + kind, answer, 3);
        Check.due(21, "pending()", repo.pending(), kind);
        Check.state(2, "create(1)", repo, () -> repo.create(1));
        Check.state(3, "delete(0)", repo, () -> repo.delete(0));
        Check.state(7, "discard()", repo, repo::discard);
        Check.state(8, "commit(1)", repo, () -> repo.commit(1));
        Check.state(9, "branch(2)", repo, () -> repo.branch(2));
        Check.state(10, "go(1)", repo, () -> repo.go(1));
        Check.state(11, "drop(0)", repo, () -> repo.drop(0));
        Check.state(12, "reset(0)", repo, () -> repo.reset(0));
        Check.state(13, "sweep()", repo, repo::sweep);
        Check.state(14, "merge(1)", repo, () -> repo.merge(1));
        Check.state(15, "carry(0)", repo, () -> repo.carry(0));
        Check.state(16, "takeBack(0)", repo, () -> repo.takeBack(0));
        Check.state(17, "replay(1)", repo, () -> repo.replay(1));
        Check.state(52, "wouldMerge(0)", repo, () -> repo.wouldMerge(0));
        Check.state(53, "wouldConflict(1)", repo, () -> repo.wouldConflict(1));
        Check.due(48, "seek(0, 2), pending", repo.seek(0, 2), 1);
        Check.due(51, "culprit(), pending", repo.culprit(), 2);
        Check.due(20, "giveUp()", repo.giveUp(), 1);
        Check.due(20, "create(1) behind it", repo.create(1), 2);
    }

    private static void nothingPending() {
        StrataRepo repo = new StrataRepo();
        Check.due(21, "pending()", repo.pending(), 0);
        Check.due(22, "conflicts()", repo.conflicts(), 0);
        Check.due(23, "unsettled()", repo.unsettled(), 0);
        Check.due(24, "left()", repo.left(), 0);
        for (int commit : NO_COMMITS) {
            StrataRepo other = Make.clash();
            Check.index(15, "carry(" + commit + ")", other, () -> other.carry(commit));
        }
    }

    public static void main(String[] arguments) {
        merge();
        mergeFirstCommit();
        mergeAsOurs();
        mergeTwice();
        mergePending();
        carry();
        carryFirst();
        carryPending();
        carryMerge();
        takeBack();
        takeBackPending();
        replay();
        replaySame();
        replayWithoutMerges();
        replayOverSettledMerge();
        replayMadeByGoOn();
        replayRoom();
        replayPending();
        replayPendingTwice();
        replayMadeAhead();
        replayAfterReplay();
        settle();
        giveUp();
        for (int kind = 1; kind <= 4; kind++) {
            refused(kind);
        }
        nothingPending();
        Check.end();
    }
}
