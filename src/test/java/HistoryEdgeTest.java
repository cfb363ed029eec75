/** Promises 40 to 47, each boundary that they name: history. */
public final class HistoryEdgeTest {
    private static final int MIN = Edge.MIN;
    private static final int MAX = Edge.MAX;
    private static final int[] GONE = {3, 4};

    /** A call with two commits. */
    private interface PairCall {
        void on(StrataRepo repo, int a, int b);
    }

    private HistoryEdgeTest() {
    }

    private static int[] noCommits(int made) {
        return Edge.numbers(-1, -2, made, made + 1, 60, 61, 63, 64, 128, MIN, MAX);
    }

    /** A number that is no commit's, at either place and at both. */
    private static void noSuchCommit(PairCall call) {
        Edge.refused(Edge.INDEX, State::ready, noCommits(6), (r, wrong) -> call.on(r, wrong, 0));
        Edge.refused(Edge.INDEX, State::ready, noCommits(6), (r, wrong) -> call.on(r, 5, wrong));
        Edge.refused(Edge.INDEX, State::ready, noCommits(6), (r, wrong) -> call.on(r, wrong, wrong));
        Edge.refused(Edge.INDEX, State::full, noCommits(60), (r, wrong) -> call.on(r, 59, wrong));
        Edge.refused(Edge.INDEX, State::full, noCommits(60), (r, wrong) -> call.on(r, wrong, 59));
        Edge.refused(Edge.INDEX, StrataRepo::new, noCommits(0), (r, wrong) -> call.on(r, wrong, wrong));
    }

    private static void gone(PairCall call) {
        Edge.refused(Edge.INDEX, State::swept, GONE, (r, wrong) -> call.on(r, wrong, 0));
        Edge.refused(Edge.INDEX, State::swept, GONE, (r, wrong) -> call.on(r, 5, wrong));
        Edge.refused(Edge.INDEX, State::swept, GONE, (r, wrong) -> call.on(r, wrong, wrong));
    }

    /** File 7 has in commit 0 the numbers from 100 on, as many as told, in commit 1 those from 101 on; 0 is there as well. */
    private static StrataRepo moved(int size) {
        StrataRepo repo = State.desk(7, State.row(100, size));
        repo.create(0);
        repo.commit(10);
        repo.erase(7, 0);
        repo.insert(7, size - 1, 100 + size);
        repo.commit(20);
        return repo;
    }

    // ---- promise 40: isAncestor

    static void promise40_itself() {
        StrataRepo repo = State.full();
        Edge.due(repo.isAncestor(0, 0), true);
        Edge.due(repo.isAncestor(59, 59), true);
    }

    static void promise40_firstAndLast() {
        StrataRepo repo = State.chain(60);
        Edge.due(repo.isAncestor(0, 59), true);
        Edge.due(repo.isAncestor(58, 59), true);
        Edge.due(repo.isAncestor(59, 58), false);
        Edge.due(repo.isAncestor(59, 0), false);
    }

    static void promise40_besideOneAnother() {
        StrataRepo repo = State.full();
        Edge.due(repo.isAncestor(58, 59), false);
        Edge.due(repo.isAncestor(59, 58), false);
        Edge.due(repo.isAncestor(57, 58), true);
        Edge.due(repo.isAncestor(57, 59), true);
    }

    static void promise40_acrossGoneNumbers() {
        StrataRepo repo = State.swept();
        Edge.due(repo.isAncestor(2, 5), true);
        Edge.due(repo.isAncestor(5, 2), false);
    }

    static void promise40_noSuchCommit() {
        noSuchCommit((r, a, b) -> r.isAncestor(a, b));
    }

    static void promise40_gone() {
        gone((r, a, b) -> r.isAncestor(a, b));
    }

    // ---- promise 41: base

    static void promise41_itself() {
        StrataRepo repo = State.full();
        Edge.due(repo.base(0, 0), 0);
        Edge.due(repo.base(59, 59), 59);
    }

    static void promise41_oneIsAncestorOfTheOther() {
        StrataRepo repo = State.full();
        Edge.due(repo.base(0, 59), 0);
        Edge.due(repo.base(59, 57), 57);
        Edge.due(repo.base(57, 59), 57);
    }

    static void promise41_besideOneAnother() {
        Edge.due(State.full().base(58, 59), 57);
        Edge.due(State.full().base(59, 58), 57);
        Edge.due(State.ready().base(2, 5), 0);
    }

    static void promise41_noSuchCommit() {
        noSuchCommit((r, a, b) -> r.base(a, b));
    }

    static void promise41_gone() {
        gone((r, a, b) -> r.base(a, b));
    }

    // ---- promise 42: ahead

    static void promise42_none() {
        StrataRepo repo = State.full();
        Edge.due(repo.ahead(59, 59), 0);
        Edge.due(repo.ahead(0, 0), 0);
        Edge.due(repo.ahead(0, 59), 0);
    }

    static void promise42_itselfAlone() {
        StrataRepo repo = State.full();
        Edge.due(repo.ahead(58, 59), 1);
        Edge.due(repo.ahead(59, 58), 1);
        Edge.due(repo.ahead(59, 57), 1);
    }

    static void promise42_fiftyNine() {
        StrataRepo repo = State.chain(60);
        Edge.due(repo.ahead(59, 0), 59);
        Edge.due(repo.ahead(59, 1), 58);
        Edge.due(repo.ahead(58, 0), 58);
    }

    static void promise42_eachSideItsOwn() {
        StrataRepo repo = State.ready();
        Edge.due(repo.ahead(5, 2), 3);
        Edge.due(repo.ahead(2, 5), 2);
    }

    static void promise42_noSuchCommit() {
        noSuchCommit((r, a, b) -> r.ahead(a, b));
    }

    static void promise42_gone() {
        gone((r, a, b) -> r.ahead(a, b));
    }

    // ---- promise 43: touched

    static void promise43_none() {
        Edge.due(State.ready().touched(0, 0), 0);
        Edge.due(State.ready().touched(5, 5), 0);
        Edge.due(State.full().touched(59, 59), 0);
    }

    static void promise43_allEight() {
        StrataRepo repo = State.allFiles();
        repo.commit(1);
        for (int file = 0; file < 8; file++) {
            repo.insert(file, file, 999);
        }
        repo.commit(2);
        for (int file = 0; file < 8; file++) {
            repo.delete(file);
        }
        repo.commit(3);
        Edge.due(repo.touched(0, 1), 8);
        Edge.due(repo.touched(1, 2), 8);
        Edge.due(repo.touched(2, 0), 8);
    }

    static void promise43_inOneOfThemAlone() {
        StrataRepo repo = State.ready();
        Edge.due(repo.touched(1, 2), 1);
        Edge.due(repo.touched(2, 1), 1);
        Edge.due(repo.touched(2, 5), 3);
    }

    static void promise43_lastLineOfTheLastFile() {
        StrataRepo repo = State.desk(7, State.row(0, 40));
        repo.commit(1);
        repo.replace(7, 39, 999);
        repo.commit(2);
        Edge.due(repo.touched(0, 1), 1);
    }

    static void promise43_fileWithoutLines() {
        StrataRepo repo = State.full();
        Edge.due(repo.touched(57, 58), 1);
        Edge.due(repo.touched(58, 59), 2);
    }

    static void promise43_noSuchCommit() {
        noSuchCommit((r, a, b) -> r.touched(a, b));
    }

    static void promise43_gone() {
        gone((r, a, b) -> r.touched(a, b));
    }

    // ---- promise 44: added

    static void promise44_none() {
        StrataRepo repo = moved(40);
        Edge.due(repo.added(0, 0, 7), 0);
        Edge.due(repo.added(0, 1, 0), 0);
    }

    static void promise44_oneOfForty() {
        StrataRepo repo = moved(40);
        Edge.due(repo.added(0, 1, 7), 1);
        Edge.due(repo.added(1, 0, 7), 1);
    }

    static void promise44_allForty() {
        StrataRepo repo = State.desk(7, State.row(100, 40));
        repo.commit(1);
        State.change(repo, 7, State.row(200, 40));
        repo.commit(2);
        repo.delete(7);
        repo.create(0);
        repo.commit(3);
        Edge.due(repo.added(0, 1, 7), 40);
        Edge.due(repo.added(2, 1, 7), 40);
        Edge.due(repo.added(1, 2, 7), 0);
    }

    static void promise44_fileIsInNone() {
        StrataRepo repo = State.ready();
        Edge.due(repo.added(0, 5, 7), 0);
        Edge.due(repo.added(0, 0, 7), 0);
    }

    static void promise44_fileIsInOneAlone() {
        StrataRepo repo = State.ready();
        Edge.due(repo.added(4, 5, 3), 1);
        Edge.due(repo.added(5, 4, 3), 0);
        Edge.due(State.full().added(57, 58, 1), 0);
    }

    static void promise44_fileIsNot0To7() {
        Edge.refused(Edge.INDEX, State::ready, State.NO_FILES, (r, file) -> r.added(0, 5, file));
        Edge.refused(Edge.INDEX, State::ready, State.NO_FILES, (r, file) -> r.added(0, 0, file));
    }

    static void promise44_noSuchCommit() {
        noSuchCommit((r, a, b) -> r.added(a, b, 0));
        Edge.refused(Edge.INDEX, State::ready, Edge.numbers(-1, MIN, MAX), (r, wrong) -> r.added(wrong, wrong, wrong));
    }

    static void promise44_gone() {
        gone((r, a, b) -> r.added(a, b, 0));
    }

    // ---- promise 45: pairOf

    static void promise45_place0AndTheLast() {
        StrataRepo repo = moved(40);
        Edge.due(repo.pairOf(0, 1, 7, 0), -1);
        Edge.due(repo.pairOf(0, 1, 7, 1), 0);
        Edge.due(repo.pairOf(0, 1, 7, 39), 38);
        Edge.due(repo.pairOf(1, 0, 7, 0), 1);
        Edge.due(repo.pairOf(1, 0, 7, 38), 39);
        Edge.due(repo.pairOf(1, 0, 7, 39), -1);
        Edge.due(repo.pairOf(0, 0, 7, 39), 39);
    }

    static void promise45_onlyLine() {
        StrataRepo repo = moved(1);
        Edge.due(repo.pairOf(0, 1, 7, 0), -1);
        Edge.due(repo.pairOf(0, 0, 7, 0), 0);
    }

    static void promise45_removedIfTheOtherHasNoFile() {
        StrataRepo repo = State.ready();
        Edge.due(repo.pairOf(5, 0, 3, 0), -1);
        Edge.due(repo.pairOf(2, 5, 2, 0), -1);
    }

    static void promise45_removedIfTheOtherHasNoLines() {
        StrataRepo repo = State.desk(7, 1, 2);
        repo.commit(1);
        State.change(repo, 7);
        repo.commit(2);
        Edge.due(repo.pairOf(0, 1, 7, 0), -1);
        Edge.due(repo.pairOf(0, 1, 7, 1), -1);
    }

    static void promise45_noSuchPlace() {
        Edge.refused(Edge.INDEX, State::ready, Edge.numbers(-1, 3, 4, 39, 40, MIN, MAX), (r, place) -> r.pairOf(0, 5, 0, place));
        Edge.refused(Edge.INDEX, () -> moved(40), Edge.numbers(-1, 40, 41, MIN, MAX), (r, place) -> r.pairOf(0, 1, 7, place));
    }

    static void promise45_placeOfTheOtherAlone() {
        Edge.refused(Edge.INDEX, () -> {
            StrataRepo repo = State.desk(0, 1);
            repo.commit(1);
            repo.insert(0, 1, 2);
            repo.commit(2);
            return repo;
        }, r -> r.pairOf(0, 1, 0, 1));
    }

    static void promise45_fileWithoutLines() {
        Edge.refused(Edge.INDEX, () -> moved(2), Edge.numbers(-1, 0, 1), (r, place) -> r.pairOf(0, 1, 0, place));
    }

    static void promise45_fileIsNotThere() {
        Edge.refused(Edge.INDEX, State::ready, r -> r.pairOf(0, 5, 3, 0), r -> r.pairOf(0, 0, 7, 0),
                r -> r.pairOf(5, 2, 2, 0), r -> r.pairOf(5, 0, 1, -1));
    }

    static void promise45_fileIsNot0To7() {
        Edge.refused(Edge.INDEX, State::ready, State.NO_FILES, (r, file) -> r.pairOf(0, 5, file, 0));
    }

    static void promise45_noSuchCommit() {
        noSuchCommit((r, a, b) -> r.pairOf(a, b, 0, 0));
        Edge.refused(Edge.INDEX, State::ready, Edge.numbers(-1, MIN, MAX), (r, wrong) -> r.pairOf(wrong, wrong, wrong, wrong));
    }

    static void promise45_gone() {
        gone((r, a, b) -> r.pairOf(a, b, 0, 0));
    }

    // ---- promise 46: blame

    static void promise46_noParent() {
        StrataRepo repo = State.ready();
        Edge.due(repo.blame(0, 0, 0), 0);
        Edge.due(repo.blame(0, 0, 2), 0);
    }

    static void promise46_fromTheParentOrNew() {
        StrataRepo repo = State.ready();
        Edge.due(repo.blame(5, 0, 0), 4);
        Edge.due(repo.blame(5, 0, 1), 0);
        Edge.due(repo.blame(5, 0, 2), 4);
        Edge.due(repo.blame(5, 3, 0), 5);
        Edge.due(repo.blame(3, 0, 0), 3);
    }

    static void promise46_throughSixtyCommits() {
        StrataRepo repo = State.desk(7, State.row(100, 40));
        repo.create(0);
        repo.commit(0);
        for (int n = 1; n < 60; n++) {
            repo.insert(0, 0, n);
            if (n % 30 == 0) {
                repo.delete(0);
                repo.create(0);
            }
            repo.commit(n);
        }
        Edge.due(repo.blame(59, 7, 0), 0);
        Edge.due(repo.blame(59, 7, 39), 0);
        Edge.due(repo.blame(59, 0, 0), 59);
        Edge.due(repo.blame(59, 0, 28), 31);
        Edge.due(repo.blame(29, 0, 28), 1);
    }

    static void promise46_lineThatMoves() {
        StrataRepo repo = moved(40);
        Edge.due(repo.blame(1, 7, 0), 0);
        Edge.due(repo.blame(1, 7, 38), 0);
        Edge.due(repo.blame(1, 7, 39), 1);
    }

    static void promise46_fileThatWasAwayBetween() {
        StrataRepo repo = State.chain(1);
        repo.delete(0);
        repo.commit(1);
        State.put(repo, 0, 0);
        repo.commit(2);
        Edge.due(repo.blame(2, 0, 0), 2);
    }

    /** Commit 3 is 2 (file 0 and file 2: 1 2 and 8) merged with 1 (file 0 and file 1: 1 3 and 9), settled as told. */
    private static StrataRepo mergedBy(int way) {
        StrataRepo repo = State.desk(0, 1);
        repo.commit(10);
        repo.branch(1);
        repo.insert(0, 1, 3);
        State.put(repo, 1, 9);
        repo.commit(20);
        repo.go(1);
        repo.insert(0, 1, 2);
        State.put(repo, 2, 8);
        repo.commit(30);
        repo.merge(0);
        repo.settle(0, way);
        repo.goOn();
        return repo;
    }

    static void promise46_firstParentAheadOfTheSecond() {
        StrataRepo repo = mergedBy(2);
        Edge.due(State.lines(repo, 3, 0), "1 2 3");
        Edge.due(repo.blame(3, 0, 0), 0);
        Edge.due(repo.blame(3, 0, 1), 2);
        StrataRepo same = State.desk(0, 1);
        same.commit(10);
        same.branch(1);
        same.insert(0, 1, 5);
        same.commit(20);
        same.go(1);
        same.insert(0, 1, 5);
        same.commit(30);
        same.merge(0);
        Edge.due(same.blame(3, 0, 1), 2);
    }

    static void promise46_secondParentIfTheFirstHasNotTheLine() {
        StrataRepo repo = mergedBy(2);
        Edge.due(repo.blame(3, 0, 2), 1);
    }

    static void promise46_secondParentIfTheFirstHasNotTheFile() {
        StrataRepo repo = mergedBy(1);
        Edge.due(repo.blame(3, 1, 0), 1);
        Edge.due(repo.blame(3, 2, 0), 2);
    }

    static void promise46_lineOfNeitherParent() {
        StrataRepo repo = mergedBy(2);
        repo.insert(0, 3, 7);
        repo.commit(40);
        Edge.due(repo.blame(4, 0, 3), 4);
        StrataRepo base = State.desk(0, 1);
        base.commit(10);
        base.branch(1);
        base.replace(0, 0, 2);
        base.commit(20);
        base.go(1);
        base.replace(0, 0, 3);
        base.commit(30);
        base.merge(0);
        base.settle(0, 3);
        base.goOn();
        Edge.due(State.lines(base, 3, 0), "1");
        Edge.due(base.blame(3, 0, 0), 3);
    }

    static void promise46_noSuchPlace() {
        Edge.refused(Edge.INDEX, State::ready, Edge.numbers(-1, 3, 4, 39, 40, MIN, MAX), (r, place) -> r.blame(5, 0, place));
        Edge.refused(Edge.INDEX, () -> moved(40), Edge.numbers(-1, 40, 41), (r, place) -> r.blame(1, 7, place));
    }

    static void promise46_fileWithoutLines() {
        Edge.refused(Edge.INDEX, () -> moved(2), Edge.numbers(-1, 0, 1), (r, place) -> r.blame(1, 0, place));
    }

    static void promise46_fileIsNotThere() {
        Edge.refused(Edge.INDEX, State::ready, r -> r.blame(5, 2, 0), r -> r.blame(0, 3, 0), r -> r.blame(0, 7, -1));
    }

    static void promise46_fileIsNot0To7() {
        Edge.refused(Edge.INDEX, State::ready, State.NO_FILES, (r, file) -> r.blame(5, file, 0));
    }

    static void promise46_noSuchCommit() {
        Edge.refused(Edge.INDEX, State::ready, noCommits(6), (r, commit) -> r.blame(commit, 0, 0));
        Edge.refused(Edge.INDEX, State::full, noCommits(60), (r, commit) -> r.blame(commit, 0, 0));
        Edge.refused(Edge.INDEX, State::ready, Edge.numbers(-1, MIN, MAX), (r, wrong) -> r.blame(wrong, wrong, wrong));
    }

    static void promise46_gone() {
        Edge.refused(Edge.INDEX, State::swept, GONE, (r, commit) -> r.blame(commit, 0, 0));
    }

    // ---- promise 47: depthOf

    static void promise47_oneAndSixty() {
        StrataRepo repo = State.chain(60);
        Edge.due(repo.depthOf(0), 1);
        Edge.due(repo.depthOf(1), 2);
        Edge.due(repo.depthOf(59), 60);
    }

    static void promise47_twoBesideOneAnother() {
        StrataRepo repo = State.full();
        Edge.due(repo.depthOf(58), 59);
        Edge.due(repo.depthOf(59), 59);
    }

    static void promise47_longerRowByTheFirstParent() {
        StrataRepo repo = State.busy(1);
        repo.settle(0, 0);
        repo.goOn();
        Edge.due(repo.depthOf(5), 4);
        Edge.due(repo.depthOf(2), 3);
        Edge.due(repo.depthOf(6), 5);
    }

    static void promise47_longerRowByTheSecondParent() {
        StrataRepo repo = State.ready();
        repo.go(0);
        repo.merge(1);
        repo.settle(0, 0);
        repo.settle(1, 0);
        repo.goOn();
        Edge.due(repo.parent(6, false) + " " + repo.parent(6, true), "2 5");
        Edge.due(repo.depthOf(6), 5);
    }

    static void promise47_noSuchCommit() {
        Edge.refused(Edge.INDEX, State::ready, noCommits(6), (r, commit) -> r.depthOf(commit));
        Edge.refused(Edge.INDEX, State::full, noCommits(60), (r, commit) -> r.depthOf(commit));
    }

    static void promise47_gone() {
        Edge.refused(Edge.INDEX, State::swept, GONE, (r, commit) -> r.depthOf(commit));
        Edge.due(State.swept().depthOf(5), 4);
    }

    public static void main(String[] arguments) {
        Edge.run(HistoryEdgeTest.class);
    }
}
