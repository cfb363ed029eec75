/** Promises 52 to 55, each boundary that they name: what would be. */
public final class WouldEdgeTest {
    private static final int MIN = Edge.MIN;
    private static final int MAX = Edge.MAX;

    private WouldEdgeTest() {
    }

    private static int[] noCommits(int made) {
        return Edge.numbers(-1, -2, made, made + 1, 60, 61, 63, 64, 128, MIN, MAX);
    }

    /** 60 commits were made; 58, on branch 0, and 59, on branch 1, the HEAD, are in CONFLICT. */
    private static StrataRepo fullClash() {
        StrataRepo repo = State.chain(58);
        repo.branch(1);
        repo.replace(0, 0, 900);
        repo.commit(20);
        repo.go(1);
        repo.replace(0, 0, 901);
        repo.commit(30);
        return repo;
    }

    // ---- promise 52: wouldMerge

    static void promise52_eachAnswer() {
        StrataRepo repo = State.ready();
        Edge.due(repo.wouldMerge(1), 0);
        Edge.due(repo.wouldMerge(0), 3);
        repo.reset(0);
        Edge.due(repo.wouldMerge(0), 1);
        repo.create(7);
        repo.commit(1);
        Edge.due(repo.wouldMerge(0), 2);
    }

    static void promise52_eachAnswerWhenSixtyWereMade() {
        StrataRepo repo = State.full();
        Edge.due(repo.wouldMerge(1), 0);
        Edge.due(repo.wouldMerge(0), 2);
        repo.reset(57);
        Edge.due(repo.wouldMerge(0), 1);
        Edge.due(fullClash().wouldMerge(0), 3);
    }

    static void promise52_nothingIsChanged() {
        StrataRepo repo = State.ready();
        repo.wouldMerge(0);
        repo.wouldMerge(1);
        for (Tail tail : Tail.values()) {
            StrataRepo asked = State.ready();
            asked.wouldMerge(0);
            Edge.due(tail.of(asked), tail.of(State.ready()));
        }
        Edge.due(repo.digest(), State.ready().digest());
        Edge.due(repo.pending(), 0);
        Edge.due(repo.merge(0), 3);
    }

    static void promise52_noSuchBranch() {
        Edge.refused(Edge.INDEX, State::ready, State.NO_BRANCHES, (r, branch) -> r.wouldMerge(branch));
        Edge.refused(Edge.INDEX, State::ready, Edge.numbers(2, 7), (r, branch) -> r.wouldMerge(branch));
        Edge.refused(Edge.INDEX, StrataRepo::new, Edge.numbers(-1, 1, 7, 8), (r, branch) -> r.wouldMerge(branch));
    }

    static void promise52_headIsAtNoCommit() {
        Edge.refused(Edge.STATE, StrataRepo::new, r -> r.wouldMerge(0));
        Edge.refused(Edge.STATE, State::allFiles, r -> r.wouldMerge(0));
    }

    static void promise52_deskIsNotClean() {
        Edge.refused(Edge.STATE, State::messy, Edge.numbers(0, 1), (r, branch) -> r.wouldMerge(branch));
    }

    static void promise52_workIsPending() {
        for (int kind = 1; kind <= 4; kind++) {
            int work = kind;
            Edge.refused(Edge.STATE, () -> State.busy(work), Edge.numbers(0, 1), (r, branch) -> r.wouldMerge(branch));
        }
    }

    static void promise52_branchGoesAheadOfAllElse() {
        Edge.refused(Edge.INDEX, State::messy, Edge.numbers(-1, 2, 8), (r, branch) -> r.wouldMerge(branch));
        Edge.refused(Edge.INDEX, () -> State.busy(1), Edge.numbers(-1, 2, 8), (r, branch) -> r.wouldMerge(branch));
    }

    // ---- promise 53: wouldConflict

    static void promise53_noneAndOneAndTwo() {
        StrataRepo repo = State.ready();
        Edge.due(repo.wouldConflict(5), 0);
        Edge.due(repo.wouldConflict(2), 0);
        Edge.due(repo.wouldConflict(0), 1);
        Edge.due(repo.wouldConflict(1), 2);
    }

    static void promise53_inEachFile() {
        StrataRepo repo = State.allFiles();
        repo.commit(10);
        repo.branch(1);
        for (int file = 0; file < 8; file++) {
            repo.insert(file, file, 901);
        }
        repo.commit(20);
        repo.go(1);
        for (int file = 0; file < 8; file++) {
            repo.insert(file, file, 902);
        }
        repo.commit(30);
        Edge.due(repo.wouldConflict(1), 8);
        // File 0 of commit 0 has no lines, as the base: so ours stands there.
        Edge.due(repo.wouldConflict(0), 7);
    }

    static void promise53_sixtyWereMade() {
        StrataRepo repo = fullClash();
        Edge.due(repo.wouldConflict(58), 1);
        Edge.due(repo.wouldConflict(59), 0);
        Edge.due(repo.wouldConflict(0), 1);
        Edge.due(State.full().wouldConflict(58), 0);
    }

    static void promise53_commitThatIsNotReached() {
        StrataRepo repo = State.ready();
        repo.reset(1);
        Edge.due(repo.isReached(3), false);
        Edge.due(repo.wouldConflict(3), 2);
    }

    static void promise53_nothingIsChanged() {
        for (Tail tail : Tail.values()) {
            StrataRepo repo = State.ready();
            repo.wouldConflict(1);
            repo.wouldConflict(0);
            Edge.due(repo.pending(), 0);
            Edge.due(tail.of(repo), tail.of(State.ready()));
        }
    }

    static void promise53_noSuchCommit() {
        Edge.refused(Edge.INDEX, State::ready, noCommits(6), (r, commit) -> r.wouldConflict(commit));
        Edge.refused(Edge.INDEX, State::full, noCommits(60), (r, commit) -> r.wouldConflict(commit));
    }

    static void promise53_headIsAtNoCommit() {
        // Then no commit was made, and that there is no such one is named first.
        Edge.refused(Edge.INDEX, StrataRepo::new, noCommits(0), (r, commit) -> r.wouldConflict(commit));
        Edge.refused(Edge.INDEX, State::allFiles, r -> r.wouldConflict(0));
    }

    static void promise53_gone() {
        Edge.refused(Edge.INDEX, State::swept, Edge.numbers(3, 4), (r, commit) -> r.wouldConflict(commit));
    }

    static void promise53_deskIsNotClean() {
        Edge.refused(Edge.STATE, State::messy, Edge.numbers(0, 1, 5), (r, commit) -> r.wouldConflict(commit));
    }

    static void promise53_workIsPending() {
        for (int kind = 1; kind <= 4; kind++) {
            int work = kind;
            Edge.refused(Edge.STATE, () -> State.busy(work), Edge.numbers(0, 1, 5), (r, commit) -> r.wouldConflict(commit));
        }
    }

    static void promise53_commitGoesAheadOfAllElse() {
        Edge.refused(Edge.INDEX, State::messy, noCommits(6), (r, commit) -> r.wouldConflict(commit));
        Edge.refused(Edge.INDEX, () -> State.busy(2), noCommits(6), (r, commit) -> r.wouldConflict(commit));
        Edge.refused(Edge.INDEX, () -> {
            StrataRepo repo = State.swept();
            repo.create(7);
            return repo;
        }, r -> r.wouldConflict(3), r -> r.wouldConflict(6));
    }

    // ---- promise 54: meanLines

    static void promise54_withoutCommits() {
        Edge.dueDouble(new StrataRepo().meanLines(), 0.0);
        Edge.dueDouble(State.allFiles().meanLines(), 0.0);
    }

    static void promise54_noLines() {
        StrataRepo repo = State.desk(0);
        repo.commit(1);
        Edge.dueDouble(repo.meanLines(), 0.0);
        repo.delete(0);
        repo.commit(2);
        Edge.dueDouble(repo.meanLines(), 0.0);
    }

    static void promise54_notCut() {
        StrataRepo repo = State.desk(0);
        repo.commit(1);
        repo.insert(0, 0, 5);
        repo.commit(2);
        Edge.dueDouble(repo.meanLines(), 0.5);
        repo.insert(0, 0, 5);
        repo.insert(0, 0, 5);
        repo.commit(3);
        Edge.dueDouble(repo.meanLines(), 4.0 / 3.0);
    }

    static void promise54_mostLines() {
        StrataRepo repo = new StrataRepo();
        for (int file = 0; file < 8; file++) {
            State.put(repo, file, State.row(0, 40));
        }
        repo.commit(1);
        Edge.dueDouble(repo.meanLines(), 320.0);
        repo.erase(7, 39);
        repo.commit(2);
        Edge.dueDouble(repo.meanLines(), 319.5);
    }

    static void promise54_sixtyCommits() {
        StrataRepo repo = State.chain(59);
        Edge.dueDouble(repo.meanLines(), 1.0);
        repo.insert(0, 0, 5);
        repo.commit(1);
        Edge.dueDouble(repo.meanLines(), 61.0 / 60.0);
    }

    static void promise54_notReachedCountAndGoneDoNot() {
        StrataRepo repo = State.desk(0, 1);
        repo.commit(1);
        State.put(repo, 7, State.row(0, 40));
        repo.commit(2);
        repo.reset(0);
        Edge.dueDouble(repo.meanLines(), 21.0);
        repo.sweep();
        Edge.dueDouble(repo.meanLines(), 1.0);
    }

    // ---- promise 55: digest

    private static long put(long d, long x) {
        return d * 31 + x;
    }

    /** The checksum as the document tells it, from what is answered. */
    private static long folded(StrataRepo repo) {
        long d = 58027;
        d = put(put(put(d, repo.commits()), repo.head()), repo.isClean() ? 1 : 0);
        d = put(put(put(put(d, repo.pending()), repo.conflicts()), repo.unsettled()), repo.left());
        d = put(put(d, repo.probe()), repo.culprit());
        for (int branch = 0; branch < 8; branch++) {
            d = put(d, repo.commitOf(branch));
        }
        for (int commit = 0; commit < repo.commits(); commit++) {
            d = put(d, repo.isThere(commit) ? 1 : 0);
            if (!repo.isThere(commit)) {
                continue;
            }
            d = put(d, repo.isReached(commit) ? 1 : 0);
            d = put(put(d, repo.parent(commit, false)), repo.parent(commit, true));
            d = put(put(d, repo.wordOf(commit)), repo.depthOf(commit));
            for (int file = 0; file < 8; file++) {
                int size = repo.lines(commit, file);
                d = put(d, size);
                for (int place = 0; place < size; place++) {
                    d = put(d, repo.lineAt(commit, file, place));
                }
            }
        }
        for (int file = 0; file < 8; file++) {
            int size = repo.deskLines(file);
            d = put(d, size);
            for (int place = 0; place < size; place++) {
                d = put(d, repo.deskLine(file, place));
            }
        }
        for (int conflict = 0; conflict < repo.conflicts(); conflict++) {
            d = put(d, repo.conflictFile(conflict));
            for (int side = 0; side < 3; side++) {
                d = put(d, repo.pieceSize(conflict, side));
            }
        }
        return d;
    }

    static void promise55_newObject() {
        Edge.due(new StrataRepo().digest(), folded(new StrataRepo()));
        long d = 58027;
        for (int x : new int[] {0, 0, 1, 0, 0, 0, 0, -1, -1, -1, -2, -2, -2, -2, -2, -2, -2}) {
            d = put(d, x);
        }
        for (int file = 0; file < 8; file++) {
            d = put(d, -1);
        }
        Edge.due(new StrataRepo().digest(), d);
    }

    static void promise55_deskThatIsNotClean() {
        Edge.due(State.allFiles().digest(), folded(State.allFiles()));
        Edge.due(State.messy().digest(), folded(State.messy()));
        StrataRepo repo = State.desk(7, State.row(960, 40));
        Edge.due(repo.digest(), folded(State.desk(7, State.row(960, 40))));
    }

    static void promise55_searchThatIsOnAndFound() {
        Edge.due(State.ready().digest(), folded(State.ready()));
        StrataRepo repo = State.ready();
        repo.tell(true);
        Edge.due(repo.culprit(), 3);
        Edge.due(repo.digest(), folded(repo));
    }

    static void promise55_goneOnes() {
        StrataRepo repo = State.swept();
        Edge.due(repo.digest(), folded(repo));
    }

    static void promise55_eachWork() {
        for (int kind = 1; kind <= 4; kind++) {
            StrataRepo repo = State.busy(kind);
            Edge.due(repo.digest(), folded(repo));
        }
    }

    static void promise55_wholeFileInConflict() {
        StrataRepo repo = State.desk(7, 1);
        repo.commit(10);
        repo.branch(7);
        repo.replace(7, 0, 2);
        repo.commit(20);
        repo.go(7);
        repo.delete(7);
        repo.commit(30);
        repo.merge(0);
        Edge.due(repo.pieceSize(0, 0), -1);
        Edge.due(repo.digest(), folded(repo));
    }

    static void promise55_twoParents() {
        StrataRepo repo = State.busy(1);
        repo.settle(0, 2);
        repo.goOn();
        Edge.due(repo.digest(), folded(repo));
    }

    static void promise55_sixtyCommits() {
        // All but commit 0 are GONE, so that the checksum can be told with few calls.
        StrataRepo repo = State.chain(60);
        repo.reset(0);
        repo.sweep();
        long due = folded(repo);
        Edge.due(repo.digest(), due);
        Edge.due(repo.commits(), 60);
    }

    static void promise55_changesNothing() {
        for (Tail tail : Tail.values()) {
            StrataRepo repo = State.busy(4);
            Edge.due(repo.digest(), repo.digest());
            Edge.due(tail.of(repo), tail.of(State.busy(4)));
        }
    }

    public static void main(String[] arguments) {
        Edge.run(WouldEdgeTest.class);
    }
}
