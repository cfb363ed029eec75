/** Promises 25 to 27, each boundary that they name: what is in CONFLICT, asked. */
public final class PieceEdgeTest {
    private static final int MIN = Edge.MIN;
    private static final int MAX = Edge.MAX;
    private static final int[] NO_CONFLICTS = {-1, -2, 4, 5, 40, 328, MIN, MAX};
    private static final int[] NO_SIDES = {-1, -2, 3, 4, MIN, MAX};

    private PieceEdgeTest() {
    }

    /**
     * A fork, the HEAD at ours, in which a merge(0) has four CONFLICTS: between two lines of file 0,
     * in file 1 that the base has not, and of all of the files 6, which ours has not, and 7, which
     * theirs has not.
     */
    private static StrataRepo fork() {
        StrataRepo repo = State.desk(0, 1, 2, 3);
        State.put(repo, 6, 7);
        State.put(repo, 7, 8);
        repo.commit(10);
        repo.branch(1);
        repo.replace(0, 1, 4);
        repo.insert(0, 2, 5);
        State.put(repo, 1, 11);
        State.change(repo, 6, 70, 71);
        repo.delete(7);
        repo.commit(20);
        repo.go(1);
        repo.erase(0, 1);
        State.put(repo, 1, 12, 13);
        repo.delete(6);
        repo.erase(7, 0);
        repo.commit(30);
        return repo;
    }

    private static StrataRepo merging() {
        StrataRepo repo = fork();
        repo.merge(0);
        return repo;
    }

    /** One CONFLICT of three rows of forty lines. */
    private static StrataRepo fortyLines() {
        StrataRepo repo = State.desk(7, State.row(100, 40));
        repo.commit(10);
        repo.branch(1);
        State.change(repo, 7, State.row(200, 40));
        repo.commit(20);
        repo.go(1);
        State.change(repo, 7, State.row(300, 40));
        repo.commit(30);
        repo.merge(0);
        return repo;
    }

    // ---- promise 25: conflictFile

    static void promise25_conflict0AndTheLast() {
        StrataRepo repo = merging();
        Edge.due(repo.conflicts(), 4);
        Edge.due(repo.conflictFile(0), 0);
        Edge.due(repo.conflictFile(1), 1);
        Edge.due(repo.conflictFile(2), 6);
        Edge.due(repo.conflictFile(3), 7);
    }

    static void promise25_twoOfOneFile() {
        StrataRepo repo = State.busy(1);
        Edge.due(repo.conflictFile(0), 0);
        Edge.due(repo.conflictFile(1), 0);
    }

    static void promise25_settledOnesAsWell() {
        StrataRepo repo = merging();
        repo.settle(3, 1);
        repo.settle(0, 0);
        Edge.due(repo.conflictFile(3), 7);
        Edge.due(repo.conflictFile(0), 0);
        Edge.due(repo.conflictFile(2), 6);
    }

    static void promise25_noSuchConflict() {
        Edge.refused(Edge.INDEX, PieceEdgeTest::merging, NO_CONFLICTS, (r, conflict) -> r.conflictFile(conflict));
        Edge.refused(Edge.INDEX, () -> State.busy(4), Edge.numbers(-1, 2, MIN, MAX), (r, conflict) -> r.conflictFile(conflict));
    }

    static void promise25_noWorkIsPending() {
        Edge.refused(Edge.INDEX, StrataRepo::new, Edge.numbers(-1, 0, 1, MIN, MAX), (r, conflict) -> r.conflictFile(conflict));
        Edge.refused(Edge.INDEX, PieceEdgeTest::fork, Edge.numbers(-1, 0, 3, 4), (r, conflict) -> r.conflictFile(conflict));
    }

    static void promise25_noWorkIsPendingAnyMore() {
        Edge.refused(Edge.INDEX, () -> {
            StrataRepo repo = merging();
            repo.giveUp();
            return repo;
        }, r -> r.conflictFile(0), r -> r.conflictFile(3));
        Edge.refused(Edge.INDEX, () -> {
            StrataRepo repo = merging();
            for (int conflict = 0; conflict < 4; conflict++) {
                repo.settle(conflict, 0);
            }
            repo.goOn();
            return repo;
        }, r -> r.conflictFile(0), r -> r.conflictFile(3));
    }

    static void promise25_noConflictOfWhatWouldBe() {
        Edge.refused(Edge.INDEX, () -> {
            StrataRepo repo = fork();
            repo.wouldMerge(0);
            return repo;
        }, r -> r.conflictFile(0));
        Edge.refused(Edge.INDEX, () -> {
            StrataRepo repo = fork();
            repo.wouldConflict(1);
            return repo;
        }, r -> r.conflictFile(0));
    }

    // ---- promise 26: pieceSize

    static void promise26_pieceWithoutLines() {
        StrataRepo repo = merging();
        Edge.due(repo.pieceSize(0, 0), 0);
        Edge.due(repo.pieceSize(0, 1), 2);
        Edge.due(repo.pieceSize(0, 2), 1);
    }

    static void promise26_baseHasNoFileWhereLinesAreMerged() {
        StrataRepo repo = merging();
        Edge.due(repo.pieceSize(1, 0), 2);
        Edge.due(repo.pieceSize(1, 1), 1);
        Edge.due(repo.pieceSize(1, 2), 0);
    }

    static void promise26_oursHasNoFile() {
        StrataRepo repo = merging();
        Edge.due(repo.pieceSize(2, 0), -1);
        Edge.due(repo.pieceSize(2, 1), 2);
        Edge.due(repo.pieceSize(2, 2), 1);
    }

    static void promise26_theirsHasNoFileAndOursNoLines() {
        StrataRepo repo = merging();
        Edge.due(repo.pieceSize(3, 0), 0);
        Edge.due(repo.pieceSize(3, 1), -1);
        Edge.due(repo.pieceSize(3, 2), 1);
    }

    static void promise26_fortyLines() {
        StrataRepo repo = fortyLines();
        Edge.due(repo.conflicts(), 1);
        for (int side = 0; side < 3; side++) {
            Edge.due(repo.pieceSize(0, side), 40);
        }
    }

    static void promise26_sideIsNot0To2() {
        for (int conflict = 0; conflict < 4; conflict++) {
            int which = conflict;
            Edge.refused(Edge.INDEX, PieceEdgeTest::merging, NO_SIDES, (r, side) -> r.pieceSize(which, side));
        }
    }

    static void promise26_noSuchConflict() {
        for (int side = 0; side < 3; side++) {
            int which = side;
            Edge.refused(Edge.INDEX, PieceEdgeTest::merging, NO_CONFLICTS, (r, conflict) -> r.pieceSize(conflict, which));
        }
        Edge.refused(Edge.INDEX, PieceEdgeTest::merging, Edge.numbers(-1, MIN, MAX), (r, number) -> r.pieceSize(number, number));
    }

    static void promise26_noWorkIsPending() {
        Edge.refused(Edge.INDEX, StrataRepo::new, Edge.numbers(-1, 0, 1), (r, conflict) -> r.pieceSize(conflict, 0));
        Edge.refused(Edge.INDEX, PieceEdgeTest::fork, Edge.numbers(-1, 0, 3), (r, conflict) -> r.pieceSize(conflict, 0));
        Edge.refused(Edge.INDEX, () -> {
            StrataRepo repo = merging();
            repo.giveUp();
            return repo;
        }, r -> r.pieceSize(0, 0), r -> r.pieceSize(3, 2));
    }

    // ---- promise 27: pieceLine

    static void promise27_place0AndTheLast() {
        StrataRepo repo = merging();
        Edge.due(State.piece(repo, 0, 0) + "/" + State.piece(repo, 0, 1) + "/" + State.piece(repo, 0, 2), "/4 5/2");
        Edge.due(State.piece(repo, 1, 0) + "/" + State.piece(repo, 1, 1) + "/" + State.piece(repo, 1, 2), "12 13/11/");
        Edge.due(State.piece(repo, 2, 0) + "/" + State.piece(repo, 2, 1) + "/" + State.piece(repo, 2, 2), "none/70 71/7");
        Edge.due(State.piece(repo, 3, 0) + "/" + State.piece(repo, 3, 1) + "/" + State.piece(repo, 3, 2), "/none/8");
    }

    static void promise27_pieceBehindLinesThatStand() {
        StrataRepo repo = State.busy(1);
        Edge.due(State.piece(repo, 0, 0) + "/" + State.piece(repo, 0, 1) + "/" + State.piece(repo, 0, 2), "8/4/1");
        Edge.due(State.piece(repo, 1, 0) + "/" + State.piece(repo, 1, 1) + "/" + State.piece(repo, 1, 2), "9/5/3");
    }

    static void promise27_fortiethLine() {
        StrataRepo repo = fortyLines();
        Edge.due(repo.pieceLine(0, 0, 39), 339);
        Edge.due(repo.pieceLine(0, 1, 39), 239);
        Edge.due(repo.pieceLine(0, 2, 39), 139);
        Edge.due(repo.pieceLine(0, 0, 0), 300);
        for (int side = 0; side < 3; side++) {
            int which = side;
            Edge.refused(Edge.INDEX, PieceEdgeTest::fortyLines, Edge.numbers(-1, 40, 41, MIN, MAX),
                    (r, place) -> r.pieceLine(0, which, place));
        }
    }

    static void promise27_lineBehindThePieceOfALongerFile() {
        Edge.refused(Edge.INDEX, PieceEdgeTest::merging, r -> r.pieceLine(0, 0, 0), r -> r.pieceLine(0, 1, 2),
                r -> r.pieceLine(0, 2, 1), r -> r.pieceLine(0, 2, -1));
        Edge.refused(Edge.INDEX, () -> State.busy(1), r -> r.pieceLine(0, 0, 1), r -> r.pieceLine(1, 2, 1),
                r -> r.pieceLine(1, 2, -1), r -> r.pieceLine(1, 0, -2));
    }

    static void promise27_noSuchPlace() {
        Edge.refused(Edge.INDEX, PieceEdgeTest::merging, Edge.numbers(-1, 2, 3, 39, 40, MIN, MAX),
                (r, place) -> r.pieceLine(1, 0, place));
        Edge.refused(Edge.INDEX, PieceEdgeTest::merging, Edge.numbers(-1, 2, 3, 39, 40, MIN, MAX),
                (r, place) -> r.pieceLine(2, 1, place));
    }

    static void promise27_noSuchFile() {
        Edge.refused(Edge.INDEX, PieceEdgeTest::merging, Edge.numbers(-2, -1, 0, 1, MIN, MAX),
                (r, place) -> r.pieceLine(2, 0, place));
        Edge.refused(Edge.INDEX, PieceEdgeTest::merging, Edge.numbers(-2, -1, 0, 1, MIN, MAX),
                (r, place) -> r.pieceLine(3, 1, place));
        Edge.refused(Edge.INDEX, PieceEdgeTest::merging, Edge.numbers(-2, -1, 0, 1, MIN, MAX),
                (r, place) -> r.pieceLine(1, 2, place));
    }

    static void promise27_sideIsNot0To2() {
        for (int conflict = 0; conflict < 4; conflict++) {
            int which = conflict;
            Edge.refused(Edge.INDEX, PieceEdgeTest::merging, NO_SIDES, (r, side) -> r.pieceLine(which, side, 0));
        }
    }

    static void promise27_noSuchConflict() {
        Edge.refused(Edge.INDEX, PieceEdgeTest::merging, NO_CONFLICTS, (r, conflict) -> r.pieceLine(conflict, 1, 0));
        Edge.refused(Edge.INDEX, PieceEdgeTest::merging, Edge.numbers(-1, MIN, MAX),
                (r, number) -> r.pieceLine(number, number, number));
    }

    static void promise27_noWorkIsPending() {
        Edge.refused(Edge.INDEX, StrataRepo::new, Edge.numbers(-1, 0, 1), (r, conflict) -> r.pieceLine(conflict, 0, 0));
        Edge.refused(Edge.INDEX, PieceEdgeTest::fork, Edge.numbers(-1, 0, 1), (r, conflict) -> r.pieceLine(conflict, 1, 0));
        Edge.refused(Edge.INDEX, () -> {
            StrataRepo repo = merging();
            repo.giveUp();
            return repo;
        }, r -> r.pieceLine(0, 1, 0), r -> r.pieceLine(3, 2, 0));
    }

    static void promise27_settledOnesAsWell() {
        StrataRepo repo = merging();
        for (int conflict = 0; conflict < 4; conflict++) {
            repo.settle(conflict, conflict);
        }
        Edge.due(State.piece(repo, 0, 1), "4 5");
        Edge.due(State.piece(repo, 3, 2), "8");
    }

    public static void main(String[] arguments) {
        Edge.run(PieceEdgeTest.class);
    }
}
