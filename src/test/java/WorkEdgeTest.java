/** Promises 14 to 24, each boundary that they name: merging, carrying, replaying. */
public final class WorkEdgeTest {
    private static final int MIN = Edge.MIN;
    private static final int MAX = Edge.MAX;

    private WorkEdgeTest() {
    }

    /**
     * So many commits were made: a row, then two more that are in CONFLICT with one another, each
     * the only one of its branch: the last but one on branch 0, the last on branch 1, the HEAD.
     */
    private static StrataRepo clashOf(int made) {
        StrataRepo repo = State.chain(made - 2);
        repo.branch(1);
        repo.replace(0, 0, 900);
        repo.commit(20);
        repo.go(1);
        repo.replace(0, 0, 901);
        repo.commit(30);
        return repo;
    }

    /** As clashOf(), but with nothing in CONFLICT: each of the last two has a new file. */
    private static StrataRepo forkOf(int made) {
        StrataRepo repo = State.chain(made - 2);
        repo.branch(1);
        State.put(repo, 1, 11);
        repo.commit(20);
        repo.go(1);
        State.put(repo, 2, 22);
        repo.commit(30);
        return repo;
    }

    /** As forkOf(), but the last commit does what the one ahead of it does, on its own branch. */
    private static StrataRepo sameTwiceOf(int made) {
        StrataRepo repo = State.chain(made - 2);
        repo.branch(1);
        repo.create(1);
        repo.commit(20);
        repo.go(1);
        repo.create(1);
        repo.commit(30);
        return repo;
    }

    private static StrataRepo clashOfSixty() {
        return clashOf(60);
    }

    private static int[] noCommits(int made) {
        return Edge.numbers(-1, -2, made, made + 1, 60, 61, 63, 64, 128, MIN, MAX);
    }

    private static void settleAll(StrataRepo repo, int way) {
        for (int conflict = 0; conflict < repo.conflicts(); conflict++) {
            repo.settle(conflict, way);
        }
    }

    // ---- promise 14: merge

    static void promise14_branchIsTheHead() {
        StrataRepo repo = State.ready();
        Edge.due(repo.merge(1), 0);
        Edge.due(repo.digest(), State.ready().digest());
    }

    static void promise14_branchAtTheSameCommit() {
        StrataRepo repo = State.allBranches();
        Edge.due(repo.merge(7), 0);
        Edge.due(repo.digest(), State.allBranches().digest());
    }

    static void promise14_branchIsAncestor() {
        StrataRepo repo = State.ready();
        repo.go(0);
        repo.reset(0);
        repo.go(1);
        Edge.due(repo.merge(0), 0);
        Edge.due(repo.commitOf(1), 5);
        Edge.due(repo.commits(), 6);
    }

    static void promise14_headIsAncestor() {
        StrataRepo repo = State.ready();
        repo.reset(0);
        Edge.due(repo.merge(0), 1);
        Edge.due(repo.commitOf(1), 2);
        Edge.due(repo.commitOf(0), 2);
        Edge.due(repo.head(), 1);
        Edge.due(repo.commits(), 6);
        Edge.due(State.desk(repo, 0), "4 2 5");
        Edge.due(State.desk(repo, 2), "30");
        Edge.due(repo.isClean(), true);
    }

    static void promise14_commitIsMade() {
        StrataRepo repo = forkOf(3);
        Edge.due(repo.merge(0), 2);
        Edge.due(repo.commits(), 4);
        Edge.due(repo.parent(3, false), 2);
        Edge.due(repo.parent(3, true), 1);
        Edge.due(repo.wordOf(3), 0);
        Edge.due(repo.commitOf(1), 3);
        Edge.due(repo.commitOf(0), 1);
        Edge.due(repo.head(), 1);
        Edge.due(State.desk(repo, 0) + "/" + State.desk(repo, 1) + "/" + State.desk(repo, 2), "0/11/22");
        Edge.due(repo.isClean(), true);
    }

    static void promise14_commitIsMadeAlsoIfAsOurs() {
        StrataRepo repo = sameTwiceOf(3);
        Edge.due(repo.merge(0), 2);
        Edge.due(repo.touched(2, 3), 0);
        Edge.due(repo.parent(3, true), 1);
        Edge.due(repo.merge(0), 0);
    }

    static void promise14_sixtiethCommit() {
        StrataRepo repo = forkOf(59);
        Edge.due(repo.merge(0), 2);
        Edge.due(repo.commits(), 60);
        Edge.due(repo.commitOf(1), 59);
        Edge.due(repo.parent(59, false), 58);
        Edge.due(repo.parent(59, true), 57);
    }

    static void promise14_sixtyWereMade() {
        Edge.refused(Edge.STATE, () -> forkOf(60), r -> r.merge(0));
        Edge.refused(Edge.STATE, WorkEdgeTest::clashOfSixty, r -> r.merge(0));
    }

    static void promise14_sixtyWereMadeAndNothingIsToBeDone() {
        Edge.refused(Edge.STATE, WorkEdgeTest::clashOfSixty, r -> r.merge(1));
    }

    static void promise14_sixtyWereMadeAndTheHeadIsOnlyToBeMoved() {
        Edge.refused(Edge.STATE, () -> {
            StrataRepo repo = clashOf(60);
            repo.reset(57);
            return repo;
        }, r -> r.merge(0));
    }

    static void promise14_sixtyWereMadeThoughSomeAreGone() {
        Edge.refused(Edge.STATE, () -> {
            StrataRepo repo = forkOf(59);
            repo.create(7);
            repo.commit(1);
            repo.reset(58);
            repo.sweep();
            return repo;
        }, r -> r.merge(0));
    }

    static void promise14_sixtiethCommitBehindAConflict() {
        StrataRepo repo = clashOf(59);
        Edge.due(repo.merge(0), 3);
        Edge.due(repo.commits(), 59);
        repo.settle(0, 2);
        Edge.due(repo.goOn(), 2);
        Edge.due(repo.commits(), 60);
        Edge.due(State.lines(repo, 59, 0), "901 900");
    }

    static void promise14_pending() {
        StrataRepo repo = State.ready();
        Edge.due(repo.merge(0), 3);
        Edge.due(repo.commits(), 6);
        Edge.due(repo.commitOf(1), 5);
        Edge.due(repo.isClean(), true);
        Edge.due(repo.deskLines(2), -1);
    }

    static void promise14_noSuchBranch() {
        Edge.refused(Edge.INDEX, State::ready, State.NO_BRANCHES, (r, branch) -> r.merge(branch));
        Edge.refused(Edge.INDEX, State::ready, Edge.numbers(2, 7), (r, branch) -> r.merge(branch));
        Edge.refused(Edge.INDEX, StrataRepo::new, Edge.numbers(-1, 1, 7, 8), (r, branch) -> r.merge(branch));
    }

    static void promise14_headIsAtNoCommit() {
        Edge.refused(Edge.STATE, StrataRepo::new, r -> r.merge(0));
        Edge.refused(Edge.STATE, State::allFiles, r -> r.merge(0));
    }

    static void promise14_deskIsNotClean() {
        Edge.refused(Edge.STATE, State::messy, Edge.numbers(0, 1), (r, branch) -> r.merge(branch));
    }

    static void promise14_workIsPending() {
        for (int kind = 1; kind <= 4; kind++) {
            int work = kind;
            Edge.refused(Edge.STATE, () -> State.busy(work), Edge.numbers(0, 1), (r, branch) -> r.merge(branch));
        }
    }

    static void promise14_branchGoesAheadOfAllElse() {
        Edge.refused(Edge.INDEX, State::messy, Edge.numbers(-1, 2, 8), (r, branch) -> r.merge(branch));
        Edge.refused(Edge.INDEX, State::full, Edge.numbers(-1, 2, 8), (r, branch) -> r.merge(branch));
        Edge.refused(Edge.INDEX, () -> State.busy(1), Edge.numbers(-1, 2, 8), (r, branch) -> r.merge(branch));
    }

    // ---- promise 15: carry

    static void promise15_commitWithoutParent() {
        StrataRepo repo = State.desk(0, 1);
        repo.commit(10);
        repo.delete(0);
        repo.create(1);
        repo.commit(20);
        Edge.due(repo.carry(0), 2);
        Edge.due(State.desk(repo, 0), "1");
        Edge.due(repo.deskLines(1), 0);
        Edge.due(repo.wordOf(2), 10);
        Edge.due(repo.parent(2, false), 1);
        Edge.due(repo.parent(2, true), -1);
    }

    static void promise15_commitOfTheHead() {
        StrataRepo repo = State.ready();
        Edge.due(repo.carry(5), 0);
        Edge.due(repo.digest(), State.ready().digest());
        Edge.due(State.chain(1).carry(0), 0);
    }

    static void promise15_noneIsMadeIfAsOurs() {
        StrataRepo repo = sameTwiceOf(3);
        Edge.due(repo.carry(1), 0);
        Edge.due(repo.commits(), 3);
        Edge.due(repo.commitOf(1), 2);
    }

    static void promise15_commitIsMade() {
        StrataRepo repo = forkOf(3);
        Edge.due(repo.carry(1), 2);
        Edge.due(repo.commits(), 4);
        Edge.due(repo.wordOf(3), 20);
        Edge.due(repo.parent(3, false), 2);
        Edge.due(repo.parent(3, true), -1);
        Edge.due(repo.commitOf(1), 3);
        Edge.due(State.desk(repo, 1) + "/" + State.desk(repo, 2), "11/22");
        Edge.due(repo.isClean(), true);
    }

    static void promise15_wordsAreKept() {
        StrataRepo repo = State.desk(0, 1);
        repo.commit(1);
        repo.create(1);
        repo.commit(999);
        repo.create(2);
        repo.commit(0);
        repo.reset(0);
        Edge.due(repo.carry(1), 2);
        Edge.due(repo.carry(2), 2);
        Edge.due(repo.wordOf(3), 999);
        Edge.due(repo.wordOf(4), 0);
    }

    static void promise15_commitThatIsNotReached() {
        StrataRepo repo = State.ready();
        repo.reset(0);
        Edge.due(repo.isReached(5), false);
        Edge.due(repo.carry(5), 2);
        Edge.due(State.desk(repo, 0) + "/" + State.desk(repo, 3), "1 2 3/50");
    }

    static void promise15_mergeByItsFirstParent() {
        StrataRepo repo = forkOf(3);
        repo.merge(0);
        repo.reset(0);
        Edge.due(repo.carry(3), 2);
        Edge.due(State.desk(repo, 1) + "/" + State.desk(repo, 2), "11/none");
        Edge.due(repo.wordOf(4), 0);
    }

    static void promise15_sixtiethCommit() {
        StrataRepo repo = forkOf(59);
        Edge.due(repo.carry(57), 2);
        Edge.due(repo.commits(), 60);
        Edge.due(repo.commitOf(1), 59);
        Edge.due(repo.wordOf(59), 20);
    }

    static void promise15_sixtyWereMade() {
        Edge.refused(Edge.STATE, () -> forkOf(60), r -> r.carry(58));
        Edge.refused(Edge.STATE, WorkEdgeTest::clashOfSixty, r -> r.carry(58));
    }

    static void promise15_sixtyWereMadeThoughNoneIsNeeded() {
        Edge.refused(Edge.STATE, WorkEdgeTest::clashOfSixty, r -> r.carry(59));
        Edge.refused(Edge.STATE, () -> sameTwiceOf(60), r -> r.carry(58));
    }

    static void promise15_noSuchCommit() {
        Edge.refused(Edge.INDEX, State::ready, noCommits(6), (r, commit) -> r.carry(commit));
        Edge.refused(Edge.INDEX, State::full, noCommits(60), (r, commit) -> r.carry(commit));
    }

    static void promise15_headIsAtNoCommit() {
        // Then no commit was made, and that there is no such one is named first.
        Edge.refused(Edge.INDEX, StrataRepo::new, noCommits(0), (r, commit) -> r.carry(commit));
        Edge.refused(Edge.INDEX, State::allFiles, r -> r.carry(0));
    }

    static void promise15_gone() {
        Edge.refused(Edge.INDEX, State::swept, Edge.numbers(3, 4), (r, commit) -> r.carry(commit));
    }

    static void promise15_deskIsNotClean() {
        Edge.refused(Edge.STATE, State::messy, Edge.numbers(0, 1, 5), (r, commit) -> r.carry(commit));
    }

    static void promise15_workIsPending() {
        for (int kind = 1; kind <= 4; kind++) {
            int work = kind;
            Edge.refused(Edge.STATE, () -> State.busy(work), Edge.numbers(0, 1, 5), (r, commit) -> r.carry(commit));
        }
    }

    static void promise15_commitGoesAheadOfAllElse() {
        Edge.refused(Edge.INDEX, State::messy, noCommits(6), (r, commit) -> r.carry(commit));
        Edge.refused(Edge.INDEX, () -> State.busy(2), noCommits(6), (r, commit) -> r.carry(commit));
        Edge.refused(Edge.INDEX, () -> {
            StrataRepo repo = State.swept();
            repo.create(7);
            return repo;
        }, r -> r.carry(3), r -> r.carry(6));
    }

    // ---- promise 16: takeBack

    static void promise16_commitWithoutParent() {
        StrataRepo repo = State.desk(0, 1);
        repo.commit(10);
        repo.create(1);
        repo.commit(20);
        Edge.due(repo.takeBack(0), 2);
        Edge.due(State.desk(repo, 0), "none");
        Edge.due(State.desk(repo, 1), "");
        Edge.due(repo.wordOf(2), 10);
        Edge.due(repo.parent(2, false), 1);
        Edge.due(repo.parent(2, true), -1);
    }

    static void promise16_onlyCommit() {
        StrataRepo repo = State.chain(1);
        Edge.due(repo.takeBack(0), 2);
        Edge.due(repo.deskLines(0), -1);
        Edge.due(repo.commitOf(0), 1);
        Edge.due(repo.takeBack(0), 0);
        Edge.due(repo.commits(), 2);
    }

    static void promise16_commitOfTheHead() {
        StrataRepo repo = State.ready();
        Edge.due(repo.takeBack(5), 2);
        Edge.due(repo.deskLines(3), -1);
        Edge.due(repo.touched(4, 6), 0);
        Edge.due(repo.parent(6, false), 5);
        Edge.due(repo.wordOf(6), 50);
        Edge.due(repo.commitOf(1), 6);
        Edge.due(repo.isClean(), true);
    }

    static void promise16_noneIsMadeIfAsOurs() {
        StrataRepo repo = forkOf(3);
        Edge.due(repo.takeBack(1), 0);
        Edge.due(repo.commits(), 3);
        Edge.due(repo.commitOf(1), 2);
    }

    static void promise16_mergeByItsFirstParent() {
        StrataRepo repo = forkOf(3);
        repo.merge(0);
        Edge.due(repo.takeBack(3), 2);
        Edge.due(State.desk(repo, 1) + "/" + State.desk(repo, 2), "none/22");
    }

    static void promise16_commitThatIsNotReached() {
        StrataRepo repo = State.ready();
        repo.reset(0);
        Edge.due(repo.isReached(5), false);
        Edge.due(repo.takeBack(5), 0);
        Edge.due(repo.takeBack(3), 0);
        Edge.due(repo.takeBack(4), 3);
    }

    static void promise16_sixtiethCommit() {
        StrataRepo repo = forkOf(59);
        Edge.due(repo.takeBack(58), 2);
        Edge.due(repo.commits(), 60);
        Edge.due(repo.commitOf(1), 59);
        Edge.due(repo.wordOf(59), 30);
    }

    static void promise16_sixtyWereMade() {
        Edge.refused(Edge.STATE, () -> forkOf(60), r -> r.takeBack(59));
        Edge.refused(Edge.STATE, WorkEdgeTest::clashOfSixty, r -> r.takeBack(57));
    }

    static void promise16_sixtyWereMadeThoughNoneIsNeeded() {
        Edge.refused(Edge.STATE, () -> forkOf(60), r -> r.takeBack(58));
    }

    static void promise16_noSuchCommit() {
        Edge.refused(Edge.INDEX, State::ready, noCommits(6), (r, commit) -> r.takeBack(commit));
        Edge.refused(Edge.INDEX, State::full, noCommits(60), (r, commit) -> r.takeBack(commit));
    }

    static void promise16_headIsAtNoCommit() {
        Edge.refused(Edge.INDEX, StrataRepo::new, noCommits(0), (r, commit) -> r.takeBack(commit));
        Edge.refused(Edge.INDEX, State::allFiles, r -> r.takeBack(0));
    }

    static void promise16_gone() {
        Edge.refused(Edge.INDEX, State::swept, Edge.numbers(3, 4), (r, commit) -> r.takeBack(commit));
    }

    static void promise16_deskIsNotClean() {
        Edge.refused(Edge.STATE, State::messy, Edge.numbers(0, 1, 5), (r, commit) -> r.takeBack(commit));
    }

    static void promise16_workIsPending() {
        for (int kind = 1; kind <= 4; kind++) {
            int work = kind;
            Edge.refused(Edge.STATE, () -> State.busy(work), Edge.numbers(0, 1, 5), (r, commit) -> r.takeBack(commit));
        }
    }

    static void promise16_commitGoesAheadOfAllElse() {
        Edge.refused(Edge.INDEX, State::messy, noCommits(6), (r, commit) -> r.takeBack(commit));
        Edge.refused(Edge.INDEX, () -> State.busy(3), noCommits(6), (r, commit) -> r.takeBack(commit));
        Edge.refused(Edge.INDEX, () -> {
            StrataRepo repo = State.swept();
            repo.create(7);
            return repo;
        }, r -> r.takeBack(4), r -> r.takeBack(6));
    }

    // ---- promise 17: replay

    static void promise17_branchIsTheHead() {
        StrataRepo repo = State.ready();
        Edge.due(repo.replay(1), 0);
        Edge.due(repo.digest(), State.ready().digest());
    }

    static void promise17_branchIsAncestor() {
        StrataRepo repo = State.ready();
        repo.drop(0);
        repo.branch(7);
        repo.go(7);
        repo.reset(3);
        repo.go(1);
        Edge.due(repo.replay(7), 0);
        Edge.due(repo.commitOf(1), 5);
        Edge.due(repo.commits(), 6);
    }

    static void promise17_headIsAncestor() {
        StrataRepo repo = State.ready();
        repo.reset(0);
        Edge.due(repo.replay(0), 1);
        Edge.due(repo.commitOf(1), 2);
        Edge.due(repo.head(), 1);
        Edge.due(State.desk(repo, 0) + "/" + State.desk(repo, 2), "4 2 5/30");
        Edge.due(repo.isClean(), true);
        Edge.due(repo.commits(), 6);
    }

    static void promise17_oneIsCarriedOver() {
        StrataRepo repo = forkOf(3);
        Edge.due(repo.replay(0), 2);
        Edge.due(repo.commits(), 4);
        Edge.due(repo.parent(3, false), 1);
        Edge.due(repo.parent(3, true), -1);
        Edge.due(repo.wordOf(3), 30);
        Edge.due(repo.commitOf(1), 3);
        Edge.due(repo.commitOf(0), 1);
        Edge.due(repo.head(), 1);
        Edge.due(State.desk(repo, 1) + "/" + State.desk(repo, 2), "11/22");
        Edge.due(repo.isReached(2), false);
    }

    static void promise17_risingNumbers() {
        StrataRepo repo = forkOf(3);
        State.put(repo, 3, 33);
        repo.commit(40);
        State.put(repo, 4, 44);
        repo.commit(50);
        Edge.due(repo.replay(0), 2);
        Edge.due(repo.commits(), 8);
        Edge.due(repo.wordOf(5) + " " + repo.wordOf(6) + " " + repo.wordOf(7), "30 40 50");
        Edge.due(repo.parent(5, false) + " " + repo.parent(6, false) + " " + repo.parent(7, false), "1 5 6");
        Edge.due(repo.touched(4, 7), 1);
    }

    static void promise17_noneIsMade() {
        StrataRepo repo = sameTwiceOf(3);
        Edge.due(repo.replay(0), 1);
        Edge.due(repo.commits(), 3);
        Edge.due(repo.commitOf(1), 1);
        Edge.due(repo.isReached(2), false);
    }

    /** Branch 1 is at a merge of two commits that branch 0, at another merge of them, has as well. */
    private static StrataRepo crossed(int made) {
        StrataRepo repo = forkOf(made - 2);
        repo.branch(2);
        repo.merge(0);
        repo.go(0);
        repo.merge(2);
        repo.go(1);
        return repo;
    }

    static void promise17_onlyAMergeIsNotCarriedOver() {
        StrataRepo repo = crossed(5);
        Edge.due(repo.ahead(3, 4), 1);
        Edge.due(repo.replay(0), 1);
        Edge.due(repo.commitOf(1), 4);
        Edge.due(repo.commits(), 5);
    }

    static void promise17_sixtyWereMadeAndNothingIsToBeDone() {
        StrataRepo repo = clashOf(60);
        Edge.due(repo.replay(1), 0);
        Edge.due(repo.commitOf(1), 59);
        StrataRepo other = clashOf(60);
        other.reset(57);
        Edge.due(other.replay(1), 0);
    }

    static void promise17_sixtyWereMadeAndNoneIsToBeCarriedOver() {
        StrataRepo repo = clashOf(60);
        repo.reset(57);
        Edge.due(repo.replay(0), 1);
        Edge.due(repo.commitOf(1), 58);
        StrataRepo merged = crossed(60);
        Edge.due(merged.commits(), 60);
        Edge.due(merged.replay(0), 1);
        Edge.due(merged.commitOf(1), 59);
    }

    static void promise17_sixtyWereMadeAndOneIsToBeCarriedOver() {
        Edge.refused(Edge.STATE, () -> forkOf(60), r -> r.replay(0));
        Edge.refused(Edge.STATE, WorkEdgeTest::clashOfSixty, r -> r.replay(0));
    }

    static void promise17_carriedOverCountsThoughNoneWouldBeMade() {
        Edge.refused(Edge.STATE, () -> sameTwiceOf(60), r -> r.replay(0));
        Edge.due(sameTwiceOf(59).replay(0), 1);
    }

    static void promise17_sixtiethCommit() {
        StrataRepo repo = forkOf(59);
        Edge.due(repo.replay(0), 2);
        Edge.due(repo.commits(), 60);
        Edge.due(repo.commitOf(1), 59);
    }

    /** As many commits as are told were made; the last two are those that a replay(0) carries over. */
    private static StrataRepo twoToCarry(int made) {
        StrataRepo repo = forkOf(made - 1);
        repo.create(3);
        repo.commit(40);
        return repo;
    }

    static void promise17_twoAreCarriedOverUpToTheSixtieth() {
        StrataRepo repo = twoToCarry(58);
        Edge.due(repo.replay(0), 2);
        Edge.due(repo.commits(), 60);
        Edge.due(repo.wordOf(58) + " " + repo.wordOf(59), "30 40");
        Edge.refused(Edge.STATE, () -> twoToCarry(59), r -> r.replay(0));
        Edge.refused(Edge.STATE, () -> twoToCarry(60), r -> r.replay(0));
    }

    static void promise17_pendingWhetherAnyWasMadeOrNot() {
        StrataRepo none = State.busy(4);
        Edge.due(none.commits(), 6);
        StrataRepo repo = forkOf(3);
        repo.replace(0, 0, 901);
        repo.commit(40);
        repo.go(0);
        repo.replace(0, 0, 900);
        repo.commit(50);
        repo.go(1);
        Edge.due(repo.replay(0), 3);
        Edge.due(repo.commits(), 6);
        Edge.due(repo.commitOf(1), 5);
        Edge.due(State.desk(repo, 0) + "/" + State.desk(repo, 1) + "/" + State.desk(repo, 2), "900/11/22");
        Edge.due(repo.isClean(), true);
    }

    static void promise17_whatAnEarlierReplayMadeDoesNotCount() {
        StrataRepo repo = forkOf(3);
        Edge.due(repo.replay(0), 2);
        repo.go(0);
        repo.create(5);
        repo.commit(40);
        repo.branch(2);
        repo.reset(1);
        repo.create(5);
        repo.commit(50);
        Edge.due(repo.replay(2), 1);
        Edge.due(repo.commitOf(0), 4);
    }

    static void promise17_noSuchBranch() {
        Edge.refused(Edge.INDEX, State::ready, State.NO_BRANCHES, (r, branch) -> r.replay(branch));
        Edge.refused(Edge.INDEX, State::ready, Edge.numbers(2, 7), (r, branch) -> r.replay(branch));
        Edge.refused(Edge.INDEX, StrataRepo::new, Edge.numbers(-1, 1, 7, 8), (r, branch) -> r.replay(branch));
    }

    static void promise17_headIsAtNoCommit() {
        Edge.refused(Edge.STATE, StrataRepo::new, r -> r.replay(0));
        Edge.refused(Edge.STATE, State::allFiles, r -> r.replay(0));
    }

    static void promise17_deskIsNotClean() {
        Edge.refused(Edge.STATE, State::messy, Edge.numbers(0, 1), (r, branch) -> r.replay(branch));
    }

    static void promise17_workIsPending() {
        for (int kind = 1; kind <= 4; kind++) {
            int work = kind;
            Edge.refused(Edge.STATE, () -> State.busy(work), Edge.numbers(0, 1), (r, branch) -> r.replay(branch));
        }
    }

    static void promise17_branchGoesAheadOfAllElse() {
        Edge.refused(Edge.INDEX, State::messy, Edge.numbers(-1, 2, 8), (r, branch) -> r.replay(branch));
        Edge.refused(Edge.INDEX, WorkEdgeTest::clashOfSixty, Edge.numbers(-1, 2, 8), (r, branch) -> r.replay(branch));
        Edge.refused(Edge.INDEX, () -> State.busy(4), Edge.numbers(-1, 2, 8), (r, branch) -> r.replay(branch));
    }

    // ---- promise 18: settle

    static void promise18_conflict0AndTheLast() {
        StrataRepo repo = State.ready();
        repo.merge(0);
        Edge.due(repo.settle(1, 0), 1);
        Edge.due(repo.settle(0, 0), 0);
        Edge.due(repo.pending(), 1);
    }

    static void promise18_noSuchConflict() {
        for (int kind = 1; kind <= 4; kind++) {
            int work = kind;
            Edge.refused(Edge.INDEX, () -> State.busy(work), Edge.numbers(-1, 2, 3, 328, MIN, MAX),
                    (r, conflict) -> r.settle(conflict, 0));
        }
    }

    static void promise18_way0AndWay3() {
        StrataRepo repo = State.busy(1);
        repo.settle(0, 0);
        repo.settle(1, 3);
        repo.goOn();
        Edge.due(State.desk(repo, 0), "8 2 3");
        StrataRepo other = State.busy(1);
        other.settle(0, 2);
        other.settle(1, 1);
        other.goOn();
        Edge.due(State.desk(other, 0), "8 4 2 5");
    }

    static void promise18_wayIsNot0To3() {
        int[] wrong = {-1, 4, 5, MIN, MAX};
        Edge.refused(Edge.ARGUMENT, () -> State.busy(1), wrong, (r, way) -> r.settle(0, way));
        Edge.refused(Edge.ARGUMENT, () -> State.busy(4), wrong, (r, way) -> r.settle(1, way));
    }

    static void promise18_oneThatIsSettled() {
        StrataRepo repo = State.busy(1);
        Edge.due(repo.settle(1, 0), 1);
        Edge.due(repo.settle(1, 1), 1);
        Edge.due(repo.settle(1, 3), 1);
        Edge.due(repo.settle(0, 1), 0);
        Edge.due(repo.settle(0, 3), 0);
        repo.goOn();
        Edge.due(State.desk(repo, 0), "1 2 3");
    }

    static void promise18_noWorkIsPending() {
        Edge.refused(Edge.STATE, StrataRepo::new, Edge.numbers(-1, 0, 1, MIN, MAX), (r, conflict) -> r.settle(conflict, 0));
        Edge.refused(Edge.STATE, State::ready, Edge.numbers(-1, 0, 1, MIN, MAX), (r, conflict) -> r.settle(conflict, 0));
    }

    static void promise18_noWorkIsPendingAnyMore() {
        Edge.refused(Edge.STATE, () -> {
            StrataRepo repo = State.busy(1);
            repo.giveUp();
            return repo;
        }, r -> r.settle(0, 0), r -> r.settle(1, 0));
        Edge.refused(Edge.STATE, () -> {
            StrataRepo repo = State.busy(1);
            repo.settle(0, 0);
            repo.goOn();
            return repo;
        }, r -> r.settle(0, 0), r -> r.settle(1, 0));
    }

    static void promise18_noWorkIsPendingBehindWhatWouldBe() {
        Edge.refused(Edge.STATE, () -> {
            StrataRepo repo = State.ready();
            repo.wouldMerge(0);
            repo.wouldConflict(1);
            return repo;
        }, r -> r.settle(0, 0));
    }

    static void promise18_workGoesAheadOfConflictAndWay() {
        Edge.refused(Edge.STATE, State::ready, r -> r.settle(-1, -1), r -> r.settle(0, 4), r -> r.settle(MIN, MAX));
    }

    static void promise18_conflictGoesAheadOfWay() {
        Edge.refused(Edge.INDEX, () -> State.busy(1), r -> r.settle(-1, -1), r -> r.settle(2, 4), r -> r.settle(MIN, MIN),
                r -> r.settle(MAX, MAX));
    }

    // ---- promise 19: goOn

    static void promise19_noWorkIsPending() {
        Edge.refused(Edge.STATE, StrataRepo::new, r -> r.goOn());
        Edge.refused(Edge.STATE, State::ready, r -> r.goOn());
        Edge.refused(Edge.STATE, State::messy, r -> r.goOn());
    }

    static void promise19_noneIsSettled() {
        Edge.refused(Edge.STATE, () -> {
            StrataRepo repo = State.ready();
            repo.merge(0);
            return repo;
        }, r -> r.goOn());
    }

    static void promise19_oneIsNotSettled() {
        for (int kind = 1; kind <= 4; kind++) {
            int work = kind;
            Edge.refused(Edge.STATE, () -> State.busy(work), r -> r.goOn());
        }
    }

    static void promise19_theLastIsNotSettled() {
        Edge.refused(Edge.STATE, () -> {
            StrataRepo repo = State.ready();
            repo.replay(0);
            repo.settle(0, 0);
            return repo;
        }, r -> r.goOn());
    }

    static void promise19_mergeAsOursIsACommit() {
        StrataRepo repo = State.ready();
        repo.go(0);
        repo.reset(1);
        repo.go(1);
        repo.merge(0);
        settleAll(repo, 0);
        Edge.due(repo.goOn(), 2);
        Edge.due(repo.touched(5, 6), 0);
        Edge.due(repo.parent(6, false) + " " + repo.parent(6, true) + " " + repo.wordOf(6), "5 1 0");
        Edge.due(repo.commitOf(1), 6);
    }

    static void promise19_carriedOverNoneWasMade() {
        StrataRepo repo = State.ready();
        repo.carry(1);
        settleAll(repo, 0);
        Edge.due(repo.goOn(), 0);
        Edge.due(repo.digest(), State.ready().digest());
    }

    static void promise19_takenBackNoneWasMade() {
        StrataRepo repo = State.ready();
        repo.takeBack(3);
        settleAll(repo, 0);
        Edge.due(repo.goOn(), 0);
        Edge.due(repo.digest(), State.ready().digest());
    }

    static void promise19_carriedOverOneWasMade() {
        StrataRepo repo = State.ready();
        repo.carry(1);
        settleAll(repo, 1);
        Edge.due(repo.goOn(), 2);
        Edge.due(repo.parent(6, false) + " " + repo.parent(6, true) + " " + repo.wordOf(6), "5 -1 20");
        Edge.due(State.desk(repo, 0) + "/" + State.desk(repo, 3), "4 2 5/50");
        Edge.due(repo.commitOf(1), 6);
        Edge.due(repo.isClean(), true);
    }

    static void promise19_takenBackOneWasMade() {
        StrataRepo repo = State.ready();
        repo.takeBack(3);
        settleAll(repo, 1);
        Edge.due(repo.goOn(), 2);
        Edge.due(repo.parent(6, false) + " " + repo.parent(6, true) + " " + repo.wordOf(6), "5 -1 30");
        Edge.due(State.desk(repo, 0) + "/" + State.desk(repo, 3), "1 2 3/50");
        Edge.due(repo.commitOf(1), 6);
    }

    static void promise19_pendingAgain() {
        StrataRepo repo = State.busy(4);
        settleAll(repo, 0);
        Edge.due(repo.goOn(), 3);
        Edge.due(repo.pending(), 4);
        Edge.due(repo.conflicts() + " " + repo.unsettled() + " " + repo.left(), "2 2 1");
        Edge.due(repo.commits(), 6);
        Edge.due(repo.commitOf(1), 2);
    }

    static void promise19_pendingAgainBehindACommit() {
        StrataRepo repo = State.busy(4);
        settleAll(repo, 3);
        Edge.due(repo.goOn(), 3);
        Edge.due(repo.commits(), 7);
        Edge.due(repo.commitOf(1), 6);
        Edge.due(State.desk(repo, 0) + "/" + State.desk(repo, 2), "1 2 3/30");
        Edge.due(repo.parent(6, false) + " " + repo.wordOf(6), "2 30");
        Edge.due(repo.isClean(), true);
    }

    static void promise19_madeBehindWhatWasPending() {
        StrataRepo repo = State.busy(4);
        settleAll(repo, 0);
        repo.goOn();
        settleAll(repo, 0);
        Edge.due(repo.goOn(), 2);
        Edge.due(repo.pending(), 0);
        Edge.due(repo.commits(), 7);
        Edge.due(repo.parent(6, false) + " " + repo.wordOf(6), "2 50");
        Edge.due(State.desk(repo, 0) + "/" + State.desk(repo, 2) + "/" + State.desk(repo, 3), "4 2 5/30/50");
    }

    /** As State.ready(), with branch 1 at commit 4, being replayed. */
    private static StrataRepo replayOfTwo() {
        StrataRepo repo = State.ready();
        repo.reset(4);
        repo.replay(0);
        return repo;
    }

    static void promise19_noneWasMadeByAllOfAReplay() {
        StrataRepo repo = replayOfTwo();
        Edge.due(repo.left(), 1);
        settleAll(repo, 0);
        Edge.due(repo.goOn(), 3);
        settleAll(repo, 0);
        Edge.due(repo.goOn(), 1);
        Edge.due(repo.commits(), 6);
        Edge.due(repo.commitOf(1), 2);
        Edge.due(repo.pending(), 0);
    }

    static void promise19_madeByTheOneThatWasPending() {
        StrataRepo repo = replayOfTwo();
        settleAll(repo, 0);
        repo.goOn();
        settleAll(repo, 1);
        Edge.due(repo.goOn(), 2);
        Edge.due(repo.commits(), 7);
        Edge.due(repo.wordOf(6), 40);
        Edge.due(State.desk(repo, 0), "8 2 9");
    }

    static void promise19_madeAheadOfWhatWasPending() {
        StrataRepo repo = replayOfTwo();
        settleAll(repo, 3);
        Edge.due(repo.goOn(), 3);
        Edge.due(repo.commits(), 7);
        settleAll(repo, 0);
        Edge.due(repo.goOn(), 2);
        Edge.due(repo.commits(), 7);
        Edge.due(repo.commitOf(1), 6);
    }

    static void promise19_sixtiethCommit() {
        StrataRepo carried = clashOf(59);
        carried.carry(57);
        carried.settle(0, 1);
        Edge.due(carried.goOn(), 2);
        Edge.due(carried.commits(), 60);
        StrataRepo takenBack = clashOf(59);
        Edge.due(takenBack.takeBack(56), 3);
        takenBack.settle(0, 1);
        Edge.due(takenBack.goOn(), 2);
        Edge.due(takenBack.commits(), 60);
        StrataRepo replayed = clashOf(59);
        Edge.due(replayed.replay(0), 3);
        replayed.settle(0, 1);
        Edge.due(replayed.goOn(), 2);
        Edge.due(replayed.commits(), 60);
        Edge.due(State.lines(replayed, 59, 0), "901");
    }

    // ---- promise 20: giveUp

    static void promise20_noWorkIsPending() {
        Edge.refused(Edge.STATE, StrataRepo::new, r -> r.giveUp());
        Edge.refused(Edge.STATE, State::ready, r -> r.giveUp());
        Edge.refused(Edge.STATE, State::messy, r -> r.giveUp());
        Edge.refused(Edge.STATE, () -> {
            StrataRepo repo = State.busy(4);
            repo.giveUp();
            return repo;
        }, r -> r.giveUp());
    }

    static void promise20_howManyAreNotSettled() {
        for (int settled = 0; settled <= 2; settled++) {
            StrataRepo repo = State.ready();
            repo.merge(0);
            for (int conflict = 0; conflict < settled; conflict++) {
                repo.settle(conflict, 1);
            }
            Edge.due(repo.giveUp(), 2 - settled);
        }
    }

    static void promise20_allIsAsItWas() {
        for (int kind = 1; kind <= 4; kind++) {
            StrataRepo repo = State.busy(kind);
            Edge.due(repo.giveUp(), 1);
            Edge.due(repo.digest(), State.ready().digest());
            Edge.due(Tail.GO_ON.of(repo), Tail.GO_ON.of(State.ready()));
        }
    }

    static void promise20_commitsThatWereMadeStay() {
        StrataRepo repo = State.busy(4);
        settleAll(repo, 3);
        Edge.due(repo.goOn(), 3);
        Edge.due(repo.giveUp(), 2);
        Edge.due(repo.commits(), 7);
        Edge.due(repo.isThere(6), true);
        Edge.due(repo.isReached(6), false);
        Edge.due(repo.commitOf(1), 5);
        Edge.due(State.desk(repo, 0) + "/" + State.desk(repo, 3), "8 2 9/50");
        Edge.due(repo.deskLines(2), -1);
        Edge.due(repo.isClean(), true);
    }

    static void promise20_commitsThatWereMadeTakeRoom() {
        Edge.refused(Edge.STATE, () -> {
            StrataRepo repo = State.chain(55);
            repo.branch(1);
            repo.replace(0, 0, 900);
            repo.commit(20);
            repo.go(1);
            repo.create(1);
            repo.commit(30);
            repo.replace(0, 0, 901);
            repo.commit(40);
            Edge.due(repo.replay(0), 3);
            Edge.due(repo.giveUp(), 1);
            Edge.due(repo.commits(), 59);
            return repo;
        }, r -> r.replay(0));
    }

    static void promise20_whatWasSettledIsForgotten() {
        StrataRepo repo = State.busy(1);
        repo.settle(0, 1);
        Edge.due(repo.giveUp(), 0);
        repo.merge(0);
        Edge.due(repo.unsettled(), 2);
    }

    // ---- promise 21: pending

    static void promise21_none() {
        Edge.due(new StrataRepo().pending(), 0);
        Edge.due(State.ready().pending(), 0);
        StrataRepo repo = State.ready();
        repo.wouldMerge(0);
        repo.wouldConflict(1);
        Edge.due(repo.pending(), 0);
    }

    static void promise21_eachKind() {
        for (int kind = 1; kind <= 4; kind++) {
            StrataRepo repo = State.busy(kind);
            Edge.due(repo.pending(), kind);
            repo.settle(0, 1);
            Edge.due(repo.pending(), kind);
        }
    }

    static void promise21_noneBehindGoOnAndGiveUp() {
        for (int kind = 1; kind <= 4; kind++) {
            StrataRepo repo = State.busy(kind);
            repo.giveUp();
            Edge.due(repo.pending(), 0);
            repo = State.busy(kind);
            for (int round = 0; round < 3 && repo.pending() != 0; round++) {
                settleAll(repo, 1);
                repo.goOn();
            }
            Edge.due(repo.pending(), 0);
        }
    }

    // ---- promise 22: conflicts

    static void promise22_noneIfNothingIsPending() {
        Edge.due(new StrataRepo().conflicts(), 0);
        StrataRepo repo = State.ready();
        repo.wouldMerge(0);
        Edge.due(repo.conflicts(), 0);
        repo.wouldConflict(1);
        Edge.due(repo.conflicts(), 0);
        repo.merge(0);
        repo.giveUp();
        Edge.due(repo.conflicts(), 0);
        repo.merge(0);
        settleAll(repo, 0);
        repo.goOn();
        Edge.due(repo.conflicts(), 0);
    }

    static void promise22_settledOnesAsWell() {
        StrataRepo repo = State.busy(1);
        Edge.due(repo.conflicts(), 2);
        repo.settle(0, 0);
        Edge.due(repo.conflicts(), 2);
    }

    static void promise22_oneAlone() {
        StrataRepo repo = clashOf(3);
        repo.merge(0);
        Edge.due(repo.conflicts(), 1);
    }

    // ---- promise 23: unsettled

    static void promise23_noneIfNothingIsPending() {
        Edge.due(new StrataRepo().unsettled(), 0);
        StrataRepo repo = State.ready();
        repo.wouldMerge(0);
        Edge.due(repo.unsettled(), 0);
        repo.merge(0);
        repo.giveUp();
        Edge.due(repo.unsettled(), 0);
    }

    static void promise23_allAndOneAndNone() {
        StrataRepo repo = State.ready();
        repo.merge(0);
        Edge.due(repo.unsettled(), 2);
        repo.settle(1, 3);
        Edge.due(repo.unsettled(), 1);
        repo.settle(1, 0);
        Edge.due(repo.unsettled(), 1);
        repo.settle(0, 2);
        Edge.due(repo.unsettled(), 0);
    }

    // ---- promise 24: left

    static void promise24_noneIfNoReplayIsPending() {
        Edge.due(new StrataRepo().left(), 0);
        Edge.due(State.ready().left(), 0);
        for (int kind = 1; kind <= 3; kind++) {
            Edge.due(State.busy(kind).left(), 0);
        }
    }

    static void promise24_twoAndOneAndNone() {
        StrataRepo repo = State.busy(4);
        Edge.due(repo.left(), 2);
        settleAll(repo, 0);
        repo.goOn();
        Edge.due(repo.left(), 1);
        settleAll(repo, 0);
        repo.goOn();
        Edge.due(repo.left(), 0);
    }

    static void promise24_noneBehindTheLastInConflict() {
        StrataRepo repo = clashOf(3);
        repo.replay(0);
        Edge.due(repo.pending(), 4);
        Edge.due(repo.left(), 0);
    }

    static void promise24_noneBehindGiveUp() {
        StrataRepo repo = State.busy(4);
        repo.giveUp();
        Edge.due(repo.left(), 0);
        repo.merge(0);
        Edge.due(repo.left(), 0);
    }

    static void promise24_mergesDoNotCount() {
        StrataRepo repo = clashOf(3);
        repo.branch(2);
        repo.go(2);
        repo.reset(0);
        repo.create(1);
        repo.commit(40);
        repo.go(1);
        Edge.due(repo.merge(2), 2);
        repo.create(3);
        repo.commit(50);
        Edge.due(repo.replay(0), 3);
        // 2 is in CONFLICT; behind it are 3, the merge 4, and 5.
        Edge.due(repo.left(), 2);
    }

    public static void main(String[] arguments) {
        Edge.run(WorkEdgeTest.class);
    }
}
