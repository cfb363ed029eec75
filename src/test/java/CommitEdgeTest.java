/** Promises 8 to 13 and 31 to 39, each boundary that they name: commits and branches. */
public final class CommitEdgeTest {
    private static final int MIN = Edge.MIN;
    private static final int MAX = Edge.MAX;

    private CommitEdgeTest() {
    }

    /** As State.full(), but with a file more on the DESK. */
    private static StrataRepo fullAndNotClean() {
        StrataRepo repo = State.full();
        repo.create(7);
        return repo;
    }

    /** As State.chain(3), with commit 2 GONE. */
    private static StrataRepo lastGone() {
        StrataRepo repo = State.chain(3);
        repo.reset(1);
        repo.sweep();
        return repo;
    }

    /** As State.full(), with commit 59 GONE: of 60 numbers the last one. */
    private static StrataRepo fullAndLastGone() {
        StrataRepo repo = State.full();
        repo.go(0);
        repo.drop(1);
        repo.sweep();
        return repo;
    }

    /** Numbers that are no commit's, where so many were made. */
    private static int[] noCommits(int made) {
        return Edge.numbers(-1, -2, made, made + 1, 60, 61, 63, 64, 128, MIN, MAX);
    }

    // ---- promise 8: commit

    static void promise08_word0AndWord999() {
        StrataRepo repo = State.desk(0);
        Edge.due(repo.commit(0), 0);
        repo.create(1);
        Edge.due(repo.commit(999), 1);
        Edge.due(repo.wordOf(0), 0);
        Edge.due(repo.wordOf(1), 999);
    }

    static void promise08_wordIsNot0To999() {
        Edge.refused(Edge.ARGUMENT, () -> State.desk(0), State.NO_LINES, (r, word) -> r.commit(word));
        Edge.refused(Edge.ARGUMENT, State::messy, State.NO_LINES, (r, word) -> r.commit(word));
    }

    static void promise08_firstCommitHasNoParent() {
        StrataRepo repo = State.desk(0, 7);
        Edge.due(repo.commit(1), 0);
        Edge.due(repo.parent(0, false), -1);
        Edge.due(repo.parent(0, true), -1);
        Edge.due(repo.commitOf(0), 0);
        Edge.due(repo.isClean(), true);
    }

    static void promise08_nextCommitHasOneParent() {
        StrataRepo repo = State.messy();
        Edge.due(repo.commit(1), 6);
        Edge.due(repo.parent(6, false), 5);
        Edge.due(repo.parent(6, true), -1);
        Edge.due(repo.commitOf(1), 6);
        Edge.due(repo.commitOf(0), 2);
        Edge.due(repo.head(), 1);
        Edge.due(State.lines(repo, 6, 0), "8 2 9 77");
        Edge.due(State.lines(repo, 6, 7), "");
        Edge.due(State.lines(repo, 5, 0), "8 2 9");
    }

    static void promise08_ofAnEmptiedDesk() {
        StrataRepo repo = State.chain(1);
        repo.delete(0);
        Edge.due(repo.commit(1), 1);
        Edge.due(repo.lines(1, 0), -1);
        Edge.due(repo.isClean(), true);
    }

    static void promise08_deskIsCleanWithoutACommit() {
        Edge.refused(Edge.STATE, StrataRepo::new, Edge.numbers(0, 999), (r, word) -> r.commit(word));
        Edge.refused(Edge.STATE, () -> {
            StrataRepo repo = State.desk(0, 1);
            repo.delete(0);
            return repo;
        }, r -> r.commit(1));
    }

    static void promise08_deskIsCleanWithACommit() {
        Edge.refused(Edge.STATE, State::ready, Edge.numbers(0, 999), (r, word) -> r.commit(word));
        Edge.refused(Edge.STATE, () -> {
            StrataRepo repo = State.ready();
            repo.erase(0, 0);
            repo.insert(0, 0, 8);
            return repo;
        }, r -> r.commit(1));
    }

    static void promise08_sixtiethCommit() {
        StrataRepo repo = State.chain(59);
        repo.create(7);
        Edge.due(repo.commit(999), 59);
        Edge.due(repo.commits(), 60);
        Edge.due(repo.commitOf(0), 59);
        Edge.due(repo.wordOf(59), 999);
        Edge.due(repo.parent(59, false), 58);
        Edge.due(repo.isReached(59), true);
    }

    static void promise08_commitBehindTheSixtieth() {
        Edge.refused(Edge.STATE, CommitEdgeTest::fullAndNotClean, Edge.numbers(0, 999), (r, word) -> r.commit(word));
    }

    static void promise08_sixtyWereMadeThoughSomeAreGone() {
        Edge.refused(Edge.STATE, () -> {
            StrataRepo repo = State.chain(60);
            repo.reset(0);
            repo.sweep();
            repo.create(7);
            return repo;
        }, r -> r.commit(1));
    }

    static void promise08_numbersOfGoneOnesAreNotUsedAgain() {
        StrataRepo repo = lastGone();
        repo.create(7);
        Edge.due(repo.commit(1), 3);
        Edge.due(repo.isThere(2), false);
        Edge.due(repo.parent(3, false), 1);
    }

    static void promise08_workIsPending() {
        for (int kind = 1; kind <= 4; kind++) {
            int work = kind;
            Edge.refused(Edge.STATE, () -> State.busy(work), Edge.numbers(0, 999), (r, word) -> r.commit(word));
        }
    }

    static void promise08_wordGoesAheadOfAllElse() {
        Edge.refused(Edge.ARGUMENT, StrataRepo::new, State.NO_LINES, (r, word) -> r.commit(word));
        Edge.refused(Edge.ARGUMENT, State::ready, State.NO_LINES, (r, word) -> r.commit(word));
        Edge.refused(Edge.ARGUMENT, State::full, State.NO_LINES, (r, word) -> r.commit(word));
        Edge.refused(Edge.ARGUMENT, CommitEdgeTest::fullAndNotClean, State.NO_LINES, (r, word) -> r.commit(word));
        Edge.refused(Edge.ARGUMENT, () -> State.busy(1), State.NO_LINES, (r, word) -> r.commit(word));
    }

    // ---- promise 9: branch

    static void promise09_branch1AndBranch7() {
        StrataRepo repo = State.chain(2);
        Edge.due(repo.branch(1), 2);
        Edge.due(repo.branch(7), 3);
        Edge.due(repo.commitOf(1), 1);
        Edge.due(repo.commitOf(7), 1);
        Edge.due(repo.commitOf(6), -2);
        Edge.due(repo.head(), 0);
    }

    static void promise09_branch0AgainWhenItWasDropped() {
        StrataRepo repo = State.chain(2);
        repo.branch(1);
        repo.go(1);
        repo.drop(0);
        Edge.due(repo.branch(0), 2);
        Edge.due(repo.commitOf(0), 1);
        Edge.due(repo.head(), 1);
    }

    static void promise09_eighthBranch() {
        StrataRepo repo = State.chain(1);
        for (int branch = 1; branch < 8; branch++) {
            Edge.due(repo.branch(branch), branch + 1);
        }
        for (int branch = 0; branch < 8; branch++) {
            Edge.due(repo.commitOf(branch), 0);
        }
        repo.drop(3);
        Edge.due(repo.branch(3), 8);
    }

    static void promise09_branchBehindTheEighth() {
        Edge.refused(Edge.STATE, State::allBranches, Edge.numbers(0, 1, 6, 7), (r, branch) -> r.branch(branch));
        Edge.refused(Edge.ARGUMENT, State::allBranches, Edge.numbers(8), (r, branch) -> r.branch(branch));
    }

    static void promise09_numberIsNot0To7() {
        Edge.refused(Edge.ARGUMENT, State::ready, State.NO_BRANCHES, (r, branch) -> r.branch(branch));
    }

    static void promise09_branchIsThere() {
        Edge.refused(Edge.STATE, State::ready, Edge.numbers(0, 1), (r, branch) -> r.branch(branch));
    }

    static void promise09_headIsAtNoCommit() {
        Edge.refused(Edge.STATE, StrataRepo::new, Edge.numbers(0, 1, 7), (r, branch) -> r.branch(branch));
        Edge.refused(Edge.STATE, State::allFiles, Edge.numbers(0, 1, 7), (r, branch) -> r.branch(branch));
    }

    static void promise09_deskNeedNotBeClean() {
        StrataRepo repo = State.messy();
        Edge.due(repo.branch(7), 3);
        Edge.due(repo.commitOf(7), 5);
        Edge.due(State.desk(repo, 0), "8 2 9 77");
        Edge.due(repo.deskLines(7), 0);
    }

    static void promise09_sixtyCommitsDoNotMatter() {
        StrataRepo repo = State.full();
        Edge.due(repo.branch(7), 3);
        Edge.due(repo.commitOf(7), 59);
    }

    static void promise09_workIsPending() {
        for (int kind = 1; kind <= 4; kind++) {
            int work = kind;
            Edge.refused(Edge.STATE, () -> State.busy(work), Edge.numbers(0, 1, 2, 7), (r, branch) -> r.branch(branch));
        }
    }

    static void promise09_numberGoesAheadOfAllElse() {
        Edge.refused(Edge.ARGUMENT, StrataRepo::new, State.NO_BRANCHES, (r, branch) -> r.branch(branch));
        Edge.refused(Edge.ARGUMENT, State::allBranches, State.NO_BRANCHES, (r, branch) -> r.branch(branch));
        Edge.refused(Edge.ARGUMENT, () -> State.busy(2), State.NO_BRANCHES, (r, branch) -> r.branch(branch));
    }

    // ---- promise 10: go

    static void promise10_branch0AndBranch7() {
        StrataRepo repo = State.chain(1);
        repo.branch(7);
        repo.create(5);
        repo.commit(1);
        Edge.due(repo.go(7), 0);
        Edge.due(repo.head(), 7);
        Edge.due(repo.deskLines(5), -1);
        Edge.due(repo.go(0), 7);
        Edge.due(repo.head(), 0);
        Edge.due(repo.deskLines(5), 0);
        Edge.due(repo.commitOf(7), 0);
        Edge.due(repo.commitOf(0), 1);
    }

    static void promise10_toTheHeadItself() {
        StrataRepo repo = State.ready();
        Edge.due(repo.go(1), 1);
        Edge.due(repo.digest(), State.ready().digest());
    }

    static void promise10_toTheHeadAtNoCommit() {
        StrataRepo repo = new StrataRepo();
        Edge.due(repo.go(0), 0);
        Edge.due(repo.digest(), new StrataRepo().digest());
    }

    static void promise10_noSuchBranch() {
        Edge.refused(Edge.INDEX, State::ready, State.NO_BRANCHES, (r, branch) -> r.go(branch));
        Edge.refused(Edge.INDEX, State::ready, Edge.numbers(2, 3, 4, 5, 6, 7), (r, branch) -> r.go(branch));
        Edge.refused(Edge.INDEX, StrataRepo::new, Edge.numbers(-1, 1, 7, 8, MIN, MAX), (r, branch) -> r.go(branch));
    }

    static void promise10_branchThatWasDropped() {
        Edge.refused(Edge.INDEX, () -> {
            StrataRepo repo = State.ready();
            repo.drop(0);
            return repo;
        }, r -> r.go(0));
    }

    static void promise10_deskIsNotClean() {
        Edge.refused(Edge.STATE, State::messy, Edge.numbers(0, 1), (r, branch) -> r.go(branch));
        Edge.refused(Edge.STATE, () -> State.desk(0), r -> r.go(0));
    }

    static void promise10_deskIsNotCleanThoughAsTheOtherCommit() {
        Edge.refused(Edge.STATE, () -> {
            StrataRepo repo = State.chain(1);
            repo.branch(1);
            repo.replace(0, 0, 7);
            repo.commit(1);
            repo.replace(0, 0, 0);
            return repo;
        }, r -> r.go(1));
    }

    static void promise10_workIsPending() {
        for (int kind = 1; kind <= 4; kind++) {
            int work = kind;
            Edge.refused(Edge.STATE, () -> State.busy(work), Edge.numbers(0, 1), (r, branch) -> r.go(branch));
        }
    }

    static void promise10_branchGoesAheadOfDeskAndWork() {
        Edge.refused(Edge.INDEX, State::messy, Edge.numbers(-1, 2, 7, 8, MIN, MAX), (r, branch) -> r.go(branch));
        Edge.refused(Edge.INDEX, () -> State.busy(3), Edge.numbers(-1, 2, 7, 8, MIN, MAX), (r, branch) -> r.go(branch));
    }

    // ---- promise 11: drop

    static void promise11_allStayReached() {
        StrataRepo repo = State.allBranches();
        for (int branch = 1; branch < 8; branch++) {
            Edge.due(repo.drop(branch), 0);
            Edge.due(repo.commitOf(branch), -2);
        }
        Edge.due(repo.branch(7), 2);
    }

    static void promise11_oneIsNotReachedAnyMore() {
        StrataRepo repo = State.full();
        Edge.due(repo.drop(0), 1);
        Edge.due(repo.isThere(58), true);
        Edge.due(repo.isReached(58), false);
        Edge.due(repo.isReached(57), true);
    }

    static void promise11_allButOneAreNotReachedAnyMore() {
        StrataRepo repo = State.chain(1);
        repo.branch(7);
        for (int n = 1; n < 60; n++) {
            repo.replace(0, 0, n);
            repo.commit(n);
        }
        repo.go(7);
        Edge.due(repo.drop(0), 59);
        Edge.due(repo.isReached(0), true);
        Edge.due(repo.isReached(1), false);
        Edge.due(repo.isReached(59), false);
        Edge.due(repo.commits(), 60);
    }

    static void promise11_onesNotReachedBeforeDoNotCount() {
        StrataRepo repo = State.chain(3);
        repo.branch(1);
        repo.reset(1);
        repo.go(1);
        repo.reset(0);
        Edge.due(repo.isReached(2), false);
        Edge.due(repo.drop(0), 1);
    }

    static void promise11_noSuchBranch() {
        Edge.refused(Edge.INDEX, State::ready, State.NO_BRANCHES, (r, branch) -> r.drop(branch));
        Edge.refused(Edge.INDEX, State::ready, Edge.numbers(2, 7), (r, branch) -> r.drop(branch));
        Edge.refused(Edge.INDEX, StrataRepo::new, Edge.numbers(1, 7), (r, branch) -> r.drop(branch));
    }

    static void promise11_branchThatWasDropped() {
        Edge.refused(Edge.INDEX, () -> {
            StrataRepo repo = State.ready();
            repo.drop(0);
            return repo;
        }, r -> r.drop(0));
    }

    static void promise11_branchIsTheHead() {
        Edge.refused(Edge.STATE, State::ready, r -> r.drop(1));
        Edge.refused(Edge.STATE, StrataRepo::new, r -> r.drop(0));
        Edge.refused(Edge.STATE, State::allBranches, r -> r.drop(0));
    }

    static void promise11_deskNeedNotBeClean() {
        StrataRepo repo = State.messy();
        Edge.due(repo.drop(0), 2);
        Edge.due(State.desk(repo, 0), "8 2 9 77");
    }

    static void promise11_workIsPending() {
        for (int kind = 1; kind <= 4; kind++) {
            int work = kind;
            Edge.refused(Edge.STATE, () -> State.busy(work), Edge.numbers(0, 1), (r, branch) -> r.drop(branch));
        }
    }

    static void promise11_branchGoesAheadOfWork() {
        Edge.refused(Edge.INDEX, () -> State.busy(4), Edge.numbers(-1, 2, 7, 8, MIN, MAX), (r, branch) -> r.drop(branch));
    }

    // ---- promise 12: reset

    static void promise12_commit0AndTheLast() {
        StrataRepo repo = State.chain(60);
        Edge.due(repo.reset(0), 59);
        Edge.due(repo.commitOf(0), 0);
        Edge.due(State.desk(repo, 0), "0");
        Edge.due(repo.reset(59), 0);
        Edge.due(repo.commitOf(0), 59);
        Edge.due(State.desk(repo, 0), "59");
        Edge.due(repo.isClean(), true);
    }

    static void promise12_toWhereItIs() {
        StrataRepo repo = State.messy();
        Edge.due(repo.reset(5), 5);
        Edge.due(repo.digest(), State.ready().digest());
    }

    static void promise12_deskIsThrownAway() {
        StrataRepo repo = State.messy();
        Edge.due(repo.reset(0), 5);
        Edge.due(repo.isClean(), true);
        Edge.due(State.desk(repo, 0), "1 2 3");
        Edge.due(repo.deskLines(3), -1);
        Edge.due(repo.deskLines(7), -1);
    }

    static void promise12_otherBranchesAndTheHeadStay() {
        StrataRepo repo = State.ready();
        repo.reset(1);
        Edge.due(repo.head(), 1);
        Edge.due(repo.commitOf(0), 2);
        Edge.due(repo.commitOf(1), 1);
    }

    static void promise12_commitThatIsNotReached() {
        StrataRepo repo = State.ready();
        repo.reset(0);
        Edge.due(repo.isReached(5), false);
        Edge.due(repo.reset(5), 0);
        Edge.due(repo.isReached(5), true);
    }

    static void promise12_noSuchCommit() {
        Edge.refused(Edge.INDEX, State::ready, noCommits(6), (r, commit) -> r.reset(commit));
        Edge.refused(Edge.INDEX, State::full, noCommits(60), (r, commit) -> r.reset(commit));
        Edge.refused(Edge.INDEX, StrataRepo::new, noCommits(0), (r, commit) -> r.reset(commit));
    }

    static void promise12_commitIsGone() {
        Edge.refused(Edge.INDEX, State::swept, Edge.numbers(3, 4), (r, commit) -> r.reset(commit));
        Edge.refused(Edge.INDEX, CommitEdgeTest::lastGone, Edge.numbers(2, 3), (r, commit) -> r.reset(commit));
    }

    static void promise12_workIsPending() {
        for (int kind = 1; kind <= 4; kind++) {
            int work = kind;
            Edge.refused(Edge.STATE, () -> State.busy(work), Edge.numbers(0, 2, 5), (r, commit) -> r.reset(commit));
        }
    }

    static void promise12_commitGoesAheadOfWork() {
        Edge.refused(Edge.INDEX, () -> State.busy(1), noCommits(6), (r, commit) -> r.reset(commit));
    }

    // ---- promise 13: sweep

    static void promise13_nothingToSweep() {
        Edge.due(new StrataRepo().sweep(), 0);
        Edge.due(State.allFiles().sweep(), 0);
        Edge.due(State.full().sweep(), 0);
    }

    static void promise13_allButOne() {
        StrataRepo repo = State.chain(60);
        repo.reset(0);
        Edge.due(repo.sweep(), 59);
        Edge.due(repo.isThere(0), true);
        for (int commit = 1; commit < 60; commit++) {
            Edge.due(repo.isThere(commit), false);
        }
        Edge.due(repo.commits(), 60);
    }

    static void promise13_theSixtiethAlone() {
        StrataRepo repo = State.chain(60);
        repo.reset(58);
        Edge.due(repo.sweep(), 1);
        Edge.due(repo.isThere(58), true);
        Edge.due(repo.isThere(59), false);
    }

    static void promise13_goneOnesDoNotCountAgain() {
        StrataRepo repo = lastGone();
        Edge.due(repo.sweep(), 0);
        repo.reset(0);
        Edge.due(repo.sweep(), 1);
        Edge.due(repo.isThere(1), false);
    }

    static void promise13_reachedByAnotherBranchAlone() {
        StrataRepo repo = State.chain(3);
        repo.branch(7);
        repo.reset(0);
        Edge.due(repo.sweep(), 0);
        Edge.due(repo.isThere(2), true);
        repo.drop(7);
        Edge.due(repo.sweep(), 2);
    }

    static void promise13_reachedByASecondParentAlone() {
        StrataRepo repo = State.chain(1);
        repo.branch(1);
        repo.create(1);
        repo.commit(1);
        repo.go(1);
        repo.create(2);
        repo.commit(2);
        repo.merge(0);
        repo.drop(0);
        Edge.due(repo.sweep(), 0);
        Edge.due(repo.isThere(1), true);
        Edge.due(repo.isReached(1), true);
    }

    static void promise13_searchIsOverThoughNothingWasSwept() {
        StrataRepo repo = State.ready();
        Edge.due(repo.probe(), 3);
        Edge.due(repo.sweep(), 0);
        Edge.due(repo.probe(), -1);
        Edge.due(repo.culprit(), -1);
    }

    static void promise13_foundCulpritIsOverAsWell() {
        StrataRepo repo = State.ready();
        repo.seek(4, 5);
        Edge.due(repo.culprit(), 5);
        repo.sweep();
        Edge.due(repo.culprit(), -1);
    }

    static void promise13_deskNeedNotBeCleanAndStays() {
        StrataRepo repo = State.messy();
        Edge.due(repo.sweep(), 0);
        Edge.due(State.desk(repo, 0), "8 2 9 77");
        Edge.due(repo.isClean(), false);
    }

    static void promise13_workIsPending() {
        for (int kind = 1; kind <= 4; kind++) {
            int work = kind;
            Edge.refused(Edge.STATE, () -> State.busy(work), r -> r.sweep());
        }
    }

    // ---- promise 31: commits

    static void promise31_none() {
        Edge.due(new StrataRepo().commits(), 0);
        Edge.due(State.allFiles().commits(), 0);
    }

    static void promise31_sixty() {
        Edge.due(State.chain(59).commits(), 59);
        Edge.due(State.chain(60).commits(), 60);
        Edge.due(fullAndNotClean().commits(), 60);
    }

    static void promise31_goneOnesAsWell() {
        Edge.due(State.swept().commits(), 6);
        Edge.due(lastGone().commits(), 3);
    }

    static void promise31_onesMadeByWork() {
        StrataRepo repo = State.busy(1);
        Edge.due(repo.commits(), 6);
        repo.settle(0, 0);
        repo.goOn();
        Edge.due(repo.commits(), 7);
    }

    // ---- promise 32: isThere

    static void promise32_commit0AndTheLast() {
        StrataRepo repo = State.ready();
        Edge.due(repo.isThere(0), true);
        Edge.due(repo.isThere(5), true);
        Edge.due(State.full().isThere(59), true);
    }

    static void promise32_numbersOfNone() {
        StrataRepo repo = State.ready();
        for (int commit : noCommits(6)) {
            Edge.due(repo.isThere(commit), false);
        }
        StrataRepo full = State.full();
        for (int commit : noCommits(60)) {
            Edge.due(full.isThere(commit), false);
        }
        StrataRepo fresh = new StrataRepo();
        for (int commit : noCommits(0)) {
            Edge.due(fresh.isThere(commit), false);
        }
    }

    static void promise32_gone() {
        StrataRepo repo = State.swept();
        boolean[] wants = {true, true, true, false, false, true};
        for (int commit = 0; commit < 6; commit++) {
            Edge.due(repo.isThere(commit), wants[commit]);
        }
        Edge.due(fullAndLastGone().isThere(58), true);
        Edge.due(fullAndLastGone().isThere(59), false);
    }

    static void promise32_notReachedIsThere() {
        StrataRepo repo = State.chain(3);
        repo.reset(0);
        Edge.due(repo.isThere(2), true);
    }

    // ---- promise 33: isReached

    static void promise33_commit0AndTheLast() {
        StrataRepo repo = State.full();
        Edge.due(repo.isReached(0), true);
        Edge.due(repo.isReached(58), true);
        Edge.due(repo.isReached(59), true);
    }

    static void promise33_byAnotherBranchAlone() {
        StrataRepo repo = State.chain(3);
        repo.branch(7);
        repo.reset(0);
        Edge.due(repo.isReached(2), true);
        repo.drop(7);
        Edge.due(repo.isReached(2), false);
        Edge.due(repo.isReached(1), false);
        Edge.due(repo.isReached(0), true);
    }

    static void promise33_noSuchCommit() {
        Edge.refused(Edge.INDEX, State::ready, noCommits(6), (r, commit) -> r.isReached(commit));
        Edge.refused(Edge.INDEX, State::full, noCommits(60), (r, commit) -> r.isReached(commit));
    }

    static void promise33_gone() {
        Edge.refused(Edge.INDEX, State::swept, Edge.numbers(3, 4), (r, commit) -> r.isReached(commit));
        Edge.refused(Edge.INDEX, CommitEdgeTest::fullAndLastGone, Edge.numbers(59), (r, commit) -> r.isReached(commit));
    }

    // ---- promise 34: parent

    static void promise34_noParent() {
        StrataRepo repo = State.full();
        Edge.due(repo.parent(0, false), -1);
        Edge.due(repo.parent(0, true), -1);
    }

    static void promise34_oneParent() {
        StrataRepo repo = State.full();
        Edge.due(repo.parent(1, false), 0);
        Edge.due(repo.parent(1, true), -1);
        Edge.due(repo.parent(59, false), 57);
        Edge.due(repo.parent(59, true), -1);
    }

    static void promise34_twoParents() {
        StrataRepo repo = State.busy(1);
        repo.settle(0, 0);
        repo.goOn();
        Edge.due(repo.parent(6, false), 5);
        Edge.due(repo.parent(6, true), 2);
    }

    static void promise34_noSuchCommit() {
        Edge.refused(Edge.INDEX, State::ready, noCommits(6), (r, commit) -> r.parent(commit, false));
        Edge.refused(Edge.INDEX, State::ready, noCommits(6), (r, commit) -> r.parent(commit, true));
        Edge.refused(Edge.INDEX, State::full, noCommits(60), (r, commit) -> r.parent(commit, false));
    }

    static void promise34_gone() {
        Edge.refused(Edge.INDEX, State::swept, Edge.numbers(3, 4), (r, commit) -> r.parent(commit, false));
        Edge.refused(Edge.INDEX, State::swept, Edge.numbers(3, 4), (r, commit) -> r.parent(commit, true));
    }

    // ---- promise 35: wordOf

    static void promise35_word0AndWord999() {
        StrataRepo repo = State.desk(0);
        repo.commit(999);
        repo.create(1);
        repo.commit(0);
        Edge.due(repo.wordOf(0), 999);
        Edge.due(repo.wordOf(1), 0);
        Edge.due(State.full().wordOf(59), 59);
    }

    static void promise35_noSuchCommit() {
        Edge.refused(Edge.INDEX, State::ready, noCommits(6), (r, commit) -> r.wordOf(commit));
        Edge.refused(Edge.INDEX, State::full, noCommits(60), (r, commit) -> r.wordOf(commit));
    }

    static void promise35_gone() {
        Edge.refused(Edge.INDEX, State::swept, Edge.numbers(3, 4), (r, commit) -> r.wordOf(commit));
    }

    // ---- promise 36: lines

    static void promise36_file0AndFile7() {
        StrataRepo repo = State.allFiles();
        repo.commit(1);
        for (int file = 0; file < 8; file++) {
            Edge.due(repo.lines(0, file), file);
        }
    }

    static void promise36_notThereAndWithoutLinesAndForty() {
        StrataRepo repo = State.desk(1);
        State.put(repo, 2, State.row(0, 40));
        repo.commit(1);
        Edge.due(repo.lines(0, 0), -1);
        Edge.due(repo.lines(0, 1), 0);
        Edge.due(repo.lines(0, 2), 40);
        Edge.due(repo.lines(0, 7), -1);
    }

    static void promise36_noSuchCommit() {
        Edge.refused(Edge.INDEX, State::ready, noCommits(6), (r, commit) -> r.lines(commit, 0));
        Edge.refused(Edge.INDEX, State::full, noCommits(60), (r, commit) -> r.lines(commit, 0));
        Edge.refused(Edge.INDEX, State::allFiles, noCommits(0), (r, commit) -> r.lines(commit, 1));
    }

    static void promise36_gone() {
        Edge.refused(Edge.INDEX, State::swept, Edge.numbers(3, 4), (r, commit) -> r.lines(commit, 0));
    }

    static void promise36_fileIsNot0To7() {
        Edge.refused(Edge.INDEX, State::ready, State.NO_FILES, (r, file) -> r.lines(0, file));
        Edge.refused(Edge.INDEX, State::ready, State.NO_FILES, (r, file) -> r.lines(5, file));
        Edge.refused(Edge.INDEX, State::ready, Edge.numbers(-1, MIN, MAX), (r, number) -> r.lines(number, number));
    }

    // ---- promise 37: lineAt

    static void promise37_place0AndTheLast() {
        StrataRepo repo = State.desk(0, 0, 5, 999);
        State.put(repo, 7, State.row(100, 40));
        repo.commit(1);
        Edge.due(repo.lineAt(0, 0, 0), 0);
        Edge.due(repo.lineAt(0, 0, 2), 999);
        Edge.due(repo.lineAt(0, 7, 0), 100);
        Edge.due(repo.lineAt(0, 7, 39), 139);
    }

    static void promise37_notWhatTheDeskHas() {
        StrataRepo repo = State.messy();
        repo.replace(0, 0, 500);
        Edge.due(repo.lineAt(5, 0, 0), 8);
        Edge.due(repo.lineAt(0, 0, 0), 1);
    }

    static void promise37_noSuchPlace() {
        Edge.refused(Edge.INDEX, State::ready, Edge.numbers(-1, 3, 4, 39, 40, MIN, MAX), (r, place) -> r.lineAt(0, 0, place));
    }

    static void promise37_placeBehindTheFortieth() {
        for (int file : Edge.numbers(0, 6, 7)) {
            Edge.refused(Edge.INDEX, () -> {
                StrataRepo repo = State.allFiles();
                State.change(repo, file, State.row(100, 40));
                repo.commit(1);
                return repo;
            }, Edge.numbers(-1, 40, 41), (r, place) -> r.lineAt(0, file, place));
        }
    }

    static void promise37_placeOfTheDeskAlone() {
        Edge.refused(Edge.INDEX, State::messy, r -> r.lineAt(5, 0, 3), r -> r.lineAt(5, 7, 0));
    }

    static void promise37_fileWithoutLines() {
        Edge.refused(Edge.INDEX, State::full, Edge.numbers(-1, 0, 1), (r, place) -> r.lineAt(59, 2, place));
    }

    static void promise37_fileIsNotThere() {
        Edge.refused(Edge.INDEX, State::ready, r -> r.lineAt(0, 1, 0), r -> r.lineAt(0, 3, 0), r -> r.lineAt(0, 7, 0),
                r -> r.lineAt(0, 7, -1));
    }

    static void promise37_fileIsNot0To7() {
        Edge.refused(Edge.INDEX, State::ready, State.NO_FILES, (r, file) -> r.lineAt(0, file, 0));
    }

    static void promise37_noSuchCommit() {
        Edge.refused(Edge.INDEX, State::ready, noCommits(6), (r, commit) -> r.lineAt(commit, 0, 0));
        Edge.refused(Edge.INDEX, State::full, noCommits(60), (r, commit) -> r.lineAt(commit, 0, 0));
        Edge.refused(Edge.INDEX, State::ready, Edge.numbers(-1, MIN, MAX), (r, number) -> r.lineAt(number, number, number));
    }

    static void promise37_gone() {
        Edge.refused(Edge.INDEX, State::swept, Edge.numbers(3, 4), (r, commit) -> r.lineAt(commit, 0, 0));
    }

    // ---- promise 38: head

    static void promise38_branch0AndBranch7() {
        StrataRepo repo = State.allBranches();
        Edge.due(repo.head(), 0);
        repo.go(7);
        Edge.due(repo.head(), 7);
        repo.drop(0);
        Edge.due(repo.head(), 7);
        repo.go(1);
        Edge.due(repo.head(), 1);
    }

    static void promise38_staysInWork() {
        for (int kind = 1; kind <= 4; kind++) {
            Edge.due(State.busy(kind).head(), 1);
        }
    }

    // ---- promise 39: commitOf

    static void promise39_atNone() {
        Edge.due(new StrataRepo().commitOf(0), -1);
        Edge.due(State.allFiles().commitOf(0), -1);
    }

    static void promise39_noSuchBranch() {
        StrataRepo repo = State.ready();
        for (int branch : State.NO_BRANCHES) {
            Edge.due(repo.commitOf(branch), -2);
        }
        for (int branch = 2; branch < 8; branch++) {
            Edge.due(repo.commitOf(branch), -2);
        }
        repo.drop(0);
        Edge.due(repo.commitOf(0), -2);
    }

    static void promise39_commit0AndTheSixtieth() {
        StrataRepo repo = State.chain(1);
        repo.branch(7);
        for (int n = 1; n < 60; n++) {
            repo.replace(0, 0, n);
            repo.commit(n);
        }
        Edge.due(repo.commitOf(0), 59);
        Edge.due(repo.commitOf(7), 0);
    }

    static void promise39_whileWorkIsPending() {
        Edge.due(State.busy(1).commitOf(1), 5);
        Edge.due(State.busy(2).commitOf(1), 5);
        Edge.due(State.busy(3).commitOf(1), 5);
        Edge.due(State.busy(4).commitOf(1), 2);
        Edge.due(State.busy(4).commitOf(0), 2);
    }

    public static void main(String[] arguments) {
        Edge.run(CommitEdgeTest.class);
    }
}
