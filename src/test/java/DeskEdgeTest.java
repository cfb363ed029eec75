/** Promises 1 to 7 and 28 to 30, each boundary that they name: a new object, and the desk. */
public final class DeskEdgeTest {
    private static final int MIN = Edge.MIN;
    private static final int MAX = Edge.MAX;
    private static final int[] LEAST_AND_GREATEST = {MIN, MAX};

    private DeskEdgeTest() {
    }

    // ---- promise 1: a new object

    static void promise01_noCommits() {
        StrataRepo repo = new StrataRepo();
        Edge.due(repo.commits(), 0);
        Edge.due(repo.isThere(0), false);
        Edge.dueDouble(repo.meanLines(), 0.0);
    }

    static void promise01_branch0IsTheHeadAtNone() {
        StrataRepo repo = new StrataRepo();
        Edge.due(repo.head(), 0);
        Edge.due(repo.commitOf(0), -1);
        for (int branch = 1; branch < 8; branch++) {
            Edge.due(repo.commitOf(branch), -2);
        }
    }

    static void promise01_deskIsEmptyAndClean() {
        StrataRepo repo = new StrataRepo();
        for (int file = 0; file < 8; file++) {
            Edge.due(repo.deskLines(file), -1);
        }
        Edge.due(repo.isClean(), true);
    }

    static void promise01_nothingIsPendingOrSought() {
        StrataRepo repo = new StrataRepo();
        Edge.due(repo.pending(), 0);
        Edge.due(repo.conflicts(), 0);
        Edge.due(repo.unsettled(), 0);
        Edge.due(repo.left(), 0);
        Edge.due(repo.probe(), -1);
        Edge.due(repo.culprit(), -1);
    }

    static void promise01_objectsHaveNothingInCommon() {
        StrataRepo first = new StrataRepo();
        StrataRepo second = new StrataRepo();
        State.put(first, 0, 7);
        first.commit(5);
        first.branch(1);
        Edge.due(second.deskLines(0), -1);
        Edge.due(second.commits(), 0);
        Edge.due(second.commitOf(1), -2);
        Edge.due(second.digest(), new StrataRepo().digest());
    }

    static void promise01_theLastOf512Calls() {
        StrataRepo repo = new StrataRepo();
        repo.create(0);
        for (int n = 0; n < 254; n++) {
            repo.insert(0, 0, n);
            Edge.due(repo.erase(0, 0), n);
        }
        repo.insert(0, 0, 5);
        Edge.due(repo.commit(999), 0);
        Edge.due(repo.lineAt(0, 0, 0), 5);
    }

    static void promise01_whatNeedsACommitIsRefused() {
        Edge.refused(Edge.INDEX, StrataRepo::new, r -> r.reset(0), r -> r.carry(0), r -> r.takeBack(0),
                r -> r.isReached(0), r -> r.parent(0, false), r -> r.parent(0, true), r -> r.wordOf(0),
                r -> r.lines(0, 0), r -> r.lineAt(0, 0, 0), r -> r.isAncestor(0, 0), r -> r.base(0, 0),
                r -> r.ahead(0, 0), r -> r.touched(0, 0), r -> r.added(0, 0, 0), r -> r.pairOf(0, 0, 0, 0),
                r -> r.blame(0, 0, 0), r -> r.depthOf(0), r -> r.seek(0, 0), r -> r.wouldConflict(0));
        Edge.refused(Edge.STATE, StrataRepo::new, r -> r.commit(0), r -> r.branch(0), r -> r.branch(1),
                r -> r.drop(0), r -> r.merge(0), r -> r.replay(0), r -> r.wouldMerge(0));
    }

    static void promise01_whatNeedsWorkIsRefused() {
        Edge.refused(Edge.STATE, StrataRepo::new, r -> r.settle(0, 0), r -> r.goOn(), r -> r.giveUp(),
                r -> r.tell(true), r -> r.tell(false));
        Edge.refused(Edge.INDEX, StrataRepo::new, r -> r.conflictFile(0), r -> r.pieceSize(0, 0),
                r -> r.pieceLine(0, 0, 0));
    }

    // ---- promise 2: create

    static void promise02_file0AndFile7() {
        StrataRepo repo = new StrataRepo();
        Edge.due(repo.create(0), 1);
        Edge.due(repo.create(7), 2);
        Edge.due(repo.deskLines(0), 0);
        Edge.due(repo.deskLines(7), 0);
        Edge.due(repo.deskLines(1), -1);
        Edge.due(repo.deskLines(6), -1);
    }

    static void promise02_fileIsNot0To7() {
        Edge.refused(Edge.INDEX, StrataRepo::new, State.NO_FILES, (r, file) -> r.create(file));
        Edge.refused(Edge.INDEX, State::allFiles, State.NO_FILES, (r, file) -> r.create(file));
    }

    static void promise02_eighthFile() {
        StrataRepo repo = new StrataRepo();
        for (int file = 7; file >= 0; file--) {
            Edge.due(repo.create(file), 8 - file);
        }
        for (int file = 0; file < 8; file++) {
            Edge.due(repo.deskLines(file), 0);
        }
    }

    static void promise02_fileIsThere() {
        Edge.refused(Edge.STATE, State::allFiles, Edge.numbers(0, 1, 6, 7), (r, file) -> r.create(file));
        Edge.refused(Edge.STATE, State::ready, Edge.numbers(0, 3), (r, file) -> r.create(file));
    }

    static void promise02_withoutLinesThoughItHadSome() {
        StrataRepo repo = State.desk(7, State.row(0, 40));
        repo.delete(7);
        Edge.due(repo.create(7), 1);
        Edge.due(repo.deskLines(7), 0);
        Edge.due(repo.insert(7, 0, 5), 1);
        Edge.due(State.desk(repo, 7), "5");
    }

    static void promise02_otherFilesStay() {
        StrataRepo repo = State.desk(0, State.row(0, 40));
        State.put(repo, 2, State.row(100, 40));
        Edge.due(repo.create(1), 3);
        Edge.due(repo.deskLines(0), 40);
        Edge.due(repo.deskLine(0, 39), 39);
        Edge.due(repo.deskLines(2), 40);
        Edge.due(repo.deskLine(2, 0), 100);
    }

    static void promise02_workIsPending() {
        for (int kind = 1; kind <= 4; kind++) {
            int work = kind;
            Edge.refused(Edge.STATE, () -> State.busy(work), Edge.numbers(0, 1, 2, 3, 7), (r, file) -> r.create(file));
        }
    }

    static void promise02_fileGoesAheadOfWork() {
        Edge.refused(Edge.INDEX, () -> State.busy(1), State.NO_FILES, (r, file) -> r.create(file));
    }

    // ---- promise 3: delete

    static void promise03_file0AndFile7() {
        StrataRepo repo = State.allFiles();
        Edge.due(repo.delete(0), 0);
        Edge.due(repo.delete(7), 7);
        Edge.due(repo.deskLines(0), -1);
        Edge.due(repo.deskLines(7), -1);
        Edge.due(repo.deskLines(1), 1);
        Edge.due(repo.deskLines(6), 6);
        Edge.due(repo.create(0), 7);
    }

    static void promise03_linesItHad() {
        Edge.due(State.desk(3).delete(3), 0);
        Edge.due(State.desk(3, 9).delete(3), 1);
        Edge.due(State.desk(3, State.row(0, 39)).delete(3), 39);
        Edge.due(State.desk(3, State.row(0, 40)).delete(3), 40);
    }

    static void promise03_fileIsNot0To7() {
        Edge.refused(Edge.INDEX, StrataRepo::new, State.NO_FILES, (r, file) -> r.delete(file));
        Edge.refused(Edge.INDEX, State::allFiles, State.NO_FILES, (r, file) -> r.delete(file));
    }

    static void promise03_fileIsNotThere() {
        Edge.refused(Edge.STATE, StrataRepo::new, Edge.numbers(0, 7), (r, file) -> r.delete(file));
        Edge.refused(Edge.STATE, State::ready, Edge.numbers(1, 2, 4, 7), (r, file) -> r.delete(file));
    }

    static void promise03_fileIsNotThereAnyMore() {
        Edge.refused(Edge.STATE, () -> {
            StrataRepo repo = State.ready();
            repo.delete(0);
            return repo;
        }, r -> r.delete(0));
    }

    static void promise03_lastFile() {
        StrataRepo repo = State.desk(0, 1);
        Edge.due(repo.isClean(), false);
        Edge.due(repo.delete(0), 1);
        Edge.due(repo.isClean(), true);
    }

    static void promise03_workIsPending() {
        for (int kind = 1; kind <= 4; kind++) {
            int work = kind;
            Edge.refused(Edge.STATE, () -> State.busy(work), Edge.numbers(0, 1, 2, 3, 7), (r, file) -> r.delete(file));
        }
    }

    static void promise03_fileGoesAheadOfWork() {
        Edge.refused(Edge.INDEX, () -> State.busy(2), State.NO_FILES, (r, file) -> r.delete(file));
    }

    // ---- promise 4: insert

    static void promise04_file0AndFile7() {
        StrataRepo repo = State.desk(0);
        repo.create(7);
        Edge.due(repo.insert(0, 0, 1), 1);
        Edge.due(repo.insert(7, 0, 2), 1);
        Edge.due(State.desk(repo, 0), "1");
        Edge.due(State.desk(repo, 7), "2");
    }

    static void promise04_fileIsNot0To7() {
        Edge.refused(Edge.INDEX, State::allFiles, State.NO_FILES, (r, file) -> r.insert(file, 0, 1));
    }

    static void promise04_line0AndLine999() {
        StrataRepo repo = State.desk(0);
        Edge.due(repo.insert(0, 0, 0), 1);
        Edge.due(repo.insert(0, 1, 999), 2);
        Edge.due(State.desk(repo, 0), "0 999");
    }

    static void promise04_lineIsNot0To999() {
        Edge.refused(Edge.ARGUMENT, () -> State.desk(0, 5), State.NO_LINES, (r, line) -> r.insert(0, 0, line));
        Edge.refused(Edge.ARGUMENT, () -> State.desk(0, 5), State.NO_LINES, (r, line) -> r.insert(0, 1, line));
    }

    static void promise04_place0AheadOfTheFirst() {
        StrataRepo repo = State.desk(2, 10, 11, 12);
        Edge.due(repo.insert(2, 0, 9), 4);
        Edge.due(State.desk(repo, 2), "9 10 11 12");
    }

    static void promise04_placeOfTheLastAheadOfIt() {
        StrataRepo repo = State.desk(2, 10, 11, 12);
        Edge.due(repo.insert(2, 2, 9), 4);
        Edge.due(State.desk(repo, 2), "10 11 9 12");
    }

    static void promise04_placeBehindTheLast() {
        StrataRepo repo = State.desk(2, 10, 11, 12);
        Edge.due(repo.insert(2, 3, 9), 4);
        Edge.due(State.desk(repo, 2), "10 11 12 9");
    }

    static void promise04_noSuchPlace() {
        Edge.refused(Edge.STATE, () -> State.desk(2, 10, 11, 12), Edge.numbers(-1, 4, 5, 39, 40, 41, MIN, MAX),
                (r, place) -> r.insert(2, place, 9));
    }

    static void promise04_placesOfAFileWithoutLines() {
        StrataRepo repo = State.desk(5);
        Edge.due(repo.insert(5, 0, 9), 1);
        Edge.refused(Edge.STATE, () -> State.desk(5), Edge.numbers(-1, 1, 40, MIN, MAX),
                (r, place) -> r.insert(5, place, 9));
    }

    static void promise04_fortiethLine() {
        for (int place : Edge.numbers(0, 20, 38, 39)) {
            StrataRepo repo = State.desk(7, State.row(0, 39));
            Edge.due(repo.insert(7, place, 999), 40);
            Edge.due(repo.deskLine(7, place), 999);
            Edge.due(repo.deskLine(7, 39), place == 39 ? 999 : 38);
            Edge.due(repo.deskLine(7, 0), place == 0 ? 999 : 0);
        }
        Edge.refused(Edge.STATE, () -> State.desk(7, State.row(0, 39)), Edge.numbers(-1, 40, 41),
                (r, place) -> r.insert(7, place, 999));
    }

    static void promise04_lineBehindTheFortieth() {
        for (int file : Edge.numbers(0, 7)) {
            Edge.refused(Edge.STATE, () -> State.desk(file, State.row(0, 40)),
                    Edge.numbers(-1, 0, 20, 39, 40, 41, MIN, MAX), (r, place) -> r.insert(file, place, 1));
        }
    }

    static void promise04_fortyLinesInEachFile() {
        StrataRepo repo = new StrataRepo();
        for (int file = 0; file < 8; file++) {
            State.put(repo, file, State.row(100 * file, 40));
        }
        for (int file = 0; file < 8; file++) {
            Edge.due(repo.deskLines(file), 40);
            Edge.due(repo.deskLine(file, 0), 100 * file);
            Edge.due(repo.deskLine(file, 39), 100 * file + 39);
        }
    }

    static void promise04_fileIsNotThere() {
        Edge.refused(Edge.STATE, StrataRepo::new, r -> r.insert(0, 0, 1), r -> r.insert(7, 0, 1));
        Edge.refused(Edge.STATE, () -> State.desk(3, 1), r -> r.insert(2, 0, 1), r -> r.insert(4, 0, 1));
    }

    static void promise04_workIsPending() {
        for (int kind = 1; kind <= 4; kind++) {
            int work = kind;
            Edge.refused(Edge.STATE, () -> State.busy(work), r -> r.insert(0, 0, 1), r -> r.insert(0, 3, 999),
                    r -> r.insert(1, 0, 1), r -> r.insert(0, -1, 1));
        }
    }

    static void promise04_fileGoesAheadOfLine() {
        Edge.refused(Edge.INDEX, () -> State.desk(0, 5), r -> r.insert(8, 0, 1000), r -> r.insert(-1, 0, -1),
                r -> r.insert(MAX, MAX, MAX), r -> r.insert(MIN, MIN, MIN));
    }

    static void promise04_fileGoesAheadOfPlaceAndWork() {
        Edge.refused(Edge.INDEX, () -> State.busy(1), r -> r.insert(8, 0, 1), r -> r.insert(-1, -1, 1000));
    }

    static void promise04_lineGoesAheadOfFileThatIsNotThere() {
        Edge.refused(Edge.ARGUMENT, () -> State.desk(0, 5), r -> r.insert(1, 0, 1000), r -> r.insert(7, 0, -1));
    }

    static void promise04_lineGoesAheadOfPlace() {
        Edge.refused(Edge.ARGUMENT, () -> State.desk(0, 5), r -> r.insert(0, 2, 1000), r -> r.insert(0, -1, -1),
                r -> r.insert(0, MAX, MIN));
    }

    static void promise04_lineGoesAheadOfFortyLines() {
        Edge.refused(Edge.ARGUMENT, () -> State.desk(0, State.row(0, 40)), r -> r.insert(0, 40, 1000),
                r -> r.insert(0, 0, -1));
    }

    static void promise04_lineGoesAheadOfWork() {
        Edge.refused(Edge.ARGUMENT, () -> State.busy(4), State.NO_LINES, (r, line) -> r.insert(0, 0, line));
    }

    // ---- promise 5: erase

    static void promise05_file0AndFile7() {
        StrataRepo repo = State.desk(0, 1);
        State.put(repo, 7, 2);
        Edge.due(repo.erase(0, 0), 1);
        Edge.due(repo.erase(7, 0), 2);
        Edge.due(repo.deskLines(0), 0);
        Edge.due(repo.deskLines(7), 0);
    }

    static void promise05_fileIsNot0To7() {
        Edge.refused(Edge.INDEX, State::allFiles, State.NO_FILES, (r, file) -> r.erase(file, 0));
    }

    static void promise05_place0() {
        StrataRepo repo = State.desk(2, 10, 11, 12);
        Edge.due(repo.erase(2, 0), 10);
        Edge.due(State.desk(repo, 2), "11 12");
    }

    static void promise05_lastPlace() {
        StrataRepo repo = State.desk(2, 10, 11, 12);
        Edge.due(repo.erase(2, 2), 12);
        Edge.due(State.desk(repo, 2), "10 11");
    }

    static void promise05_noSuchPlace() {
        Edge.refused(Edge.STATE, () -> State.desk(2, 10, 11, 12), Edge.numbers(-1, 3, 4, 39, 40, MIN, MAX),
                (r, place) -> r.erase(2, place));
    }

    static void promise05_fileWithoutLines() {
        Edge.refused(Edge.STATE, () -> State.desk(2), Edge.numbers(-1, 0, 1, MIN, MAX), (r, place) -> r.erase(2, place));
    }

    static void promise05_onlyLine() {
        StrataRepo repo = State.desk(2, 999);
        Edge.due(repo.erase(2, 0), 999);
        Edge.due(repo.deskLines(2), 0);
        Edge.due(repo.create(3), 2);
    }

    static void promise05_fortiethLine() {
        StrataRepo repo = State.desk(7, State.row(0, 40));
        Edge.due(repo.erase(7, 39), 39);
        Edge.due(repo.deskLines(7), 39);
        Edge.due(repo.insert(7, 39, 500), 40);
        Edge.due(repo.erase(7, 0), 0);
        Edge.due(repo.deskLine(7, 0), 1);
        Edge.due(repo.deskLine(7, 38), 500);
        Edge.refused(Edge.STATE, () -> State.desk(7, State.row(0, 40)), Edge.numbers(-1, 40, 41),
                (r, place) -> r.erase(7, place));
    }

    static void promise05_otherFilesStay() {
        StrataRepo repo = State.desk(2, State.row(0, 40));
        State.put(repo, 3, State.row(100, 40));
        repo.erase(2, 0);
        Edge.due(repo.deskLines(3), 40);
        Edge.due(repo.deskLine(3, 0), 100);
        Edge.due(repo.deskLine(2, 38), 39);
    }

    static void promise05_fileIsNotThere() {
        Edge.refused(Edge.STATE, StrataRepo::new, r -> r.erase(0, 0), r -> r.erase(7, 0));
        Edge.refused(Edge.STATE, State::ready, r -> r.erase(2, 0), r -> r.erase(7, -1));
    }

    static void promise05_workIsPending() {
        for (int kind = 1; kind <= 4; kind++) {
            int work = kind;
            Edge.refused(Edge.STATE, () -> State.busy(work), r -> r.erase(0, 0), r -> r.erase(0, 2),
                    r -> r.erase(0, 3), r -> r.erase(7, 0));
        }
    }

    static void promise05_fileGoesAheadOfPlaceAndWork() {
        Edge.refused(Edge.INDEX, () -> State.desk(0, 1), r -> r.erase(8, 1), r -> r.erase(-1, -1), r -> r.erase(MAX, MAX));
        Edge.refused(Edge.INDEX, () -> State.busy(3), r -> r.erase(8, 0), r -> r.erase(-1, 0));
    }

    // ---- promise 6: replace

    static void promise06_file0AndFile7() {
        StrataRepo repo = State.desk(0, 1);
        State.put(repo, 7, 2);
        Edge.due(repo.replace(0, 0, 3), 1);
        Edge.due(repo.replace(7, 0, 4), 2);
        Edge.due(State.desk(repo, 0), "3");
        Edge.due(State.desk(repo, 7), "4");
    }

    static void promise06_fileIsNot0To7() {
        Edge.refused(Edge.INDEX, State::allFiles, State.NO_FILES, (r, file) -> r.replace(file, 0, 1));
    }

    static void promise06_line0AndLine999() {
        StrataRepo repo = State.desk(0, 5, 6);
        Edge.due(repo.replace(0, 0, 0), 5);
        Edge.due(repo.replace(0, 1, 999), 6);
        Edge.due(State.desk(repo, 0), "0 999");
        Edge.due(repo.replace(0, 0, 7), 0);
        Edge.due(repo.replace(0, 1, 8), 999);
    }

    static void promise06_lineIsNot0To999() {
        Edge.refused(Edge.ARGUMENT, () -> State.desk(0, 5), State.NO_LINES, (r, line) -> r.replace(0, 0, line));
    }

    static void promise06_lineAsItWas() {
        StrataRepo repo = State.ready();
        Edge.due(repo.replace(0, 1, 2), 2);
        Edge.due(repo.isClean(), true);
    }

    static void promise06_place0AndTheLast() {
        StrataRepo repo = State.desk(2, 10, 11, 12);
        Edge.due(repo.replace(2, 0, 20), 10);
        Edge.due(repo.replace(2, 2, 22), 12);
        Edge.due(State.desk(repo, 2), "20 11 22");
    }

    static void promise06_noSuchPlace() {
        Edge.refused(Edge.STATE, () -> State.desk(2, 10, 11, 12), Edge.numbers(-1, 3, 4, 39, 40, MIN, MAX),
                (r, place) -> r.replace(2, place, 9));
    }

    static void promise06_fileWithoutLines() {
        Edge.refused(Edge.STATE, () -> State.desk(2), Edge.numbers(-1, 0, 1, MIN, MAX),
                (r, place) -> r.replace(2, place, 9));
    }

    static void promise06_fortiethLine() {
        StrataRepo repo = State.desk(7, State.row(0, 40));
        Edge.due(repo.replace(7, 39, 500), 39);
        Edge.due(repo.deskLine(7, 39), 500);
        Edge.due(repo.deskLines(7), 40);
        Edge.refused(Edge.STATE, () -> State.desk(7, State.row(0, 40)), Edge.numbers(-1, 40, 41),
                (r, place) -> r.replace(7, place, 9));
    }

    static void promise06_fileIsNotThere() {
        Edge.refused(Edge.STATE, StrataRepo::new, r -> r.replace(0, 0, 1), r -> r.replace(7, 0, 1));
        Edge.refused(Edge.STATE, State::ready, r -> r.replace(2, 0, 1), r -> r.replace(7, -1, 1));
    }

    static void promise06_workIsPending() {
        for (int kind = 1; kind <= 4; kind++) {
            int work = kind;
            Edge.refused(Edge.STATE, () -> State.busy(work), r -> r.replace(0, 0, 1), r -> r.replace(0, 2, 999),
                    r -> r.replace(0, 3, 1), r -> r.replace(7, 0, 1), r -> r.replace(0, 1, 2));
        }
    }

    static void promise06_fileGoesAheadOfLine() {
        Edge.refused(Edge.INDEX, () -> State.desk(0, 5), r -> r.replace(8, 0, 1000), r -> r.replace(-1, 0, -1),
                r -> r.replace(MAX, MAX, MAX), r -> r.replace(MIN, MIN, MIN));
    }

    static void promise06_fileGoesAheadOfPlaceAndWork() {
        Edge.refused(Edge.INDEX, () -> State.busy(1), r -> r.replace(8, 0, 1), r -> r.replace(-1, -1, 1000));
    }

    static void promise06_lineGoesAheadOfFileThatIsNotThere() {
        Edge.refused(Edge.ARGUMENT, () -> State.desk(0, 5), r -> r.replace(1, 0, 1000), r -> r.replace(7, 0, -1));
    }

    static void promise06_lineGoesAheadOfPlace() {
        Edge.refused(Edge.ARGUMENT, () -> State.desk(0, 5), r -> r.replace(0, 1, 1000), r -> r.replace(0, -1, -1),
                r -> r.replace(0, MAX, MIN));
    }

    static void promise06_lineGoesAheadOfWork() {
        Edge.refused(Edge.ARGUMENT, () -> State.busy(4), State.NO_LINES, (r, line) -> r.replace(0, 0, line));
    }

    // ---- promise 7: discard

    static void promise07_nothingToDiscard() {
        Edge.due(new StrataRepo().discard(), 0);
        Edge.due(State.ready().discard(), 0);
        Edge.due(State.full().discard(), 0);
    }

    static void promise07_emptyIfAtNoCommit() {
        StrataRepo repo = State.allFiles();
        Edge.due(repo.discard(), 8);
        for (int file = 0; file < 8; file++) {
            Edge.due(repo.deskLines(file), -1);
        }
        Edge.due(repo.isClean(), true);
        Edge.due(repo.discard(), 0);
    }

    static void promise07_allEightFiles() {
        StrataRepo repo = State.allFiles();
        repo.commit(1);
        for (int file = 0; file < 8; file++) {
            repo.insert(file, file, 999);
        }
        Edge.due(repo.discard(), 8);
        Edge.due(State.desk(repo, 0), "");
        Edge.due(State.desk(repo, 7), "700 701 702 703 704 705 706");
        for (int file = 0; file < 8; file++) {
            repo.delete(file);
        }
        Edge.due(repo.discard(), 8);
        Edge.due(repo.deskLines(0), 0);
        Edge.due(repo.deskLines(7), 7);
    }

    static void promise07_fileThatIsOther() {
        StrataRepo repo = State.ready();
        repo.replace(0, 2, 0);
        Edge.due(repo.discard(), 1);
        Edge.due(State.desk(repo, 0), "8 2 9");
    }

    static void promise07_fileOfTheDeskAlone() {
        StrataRepo repo = State.ready();
        repo.create(7);
        Edge.due(repo.discard(), 1);
        Edge.due(repo.deskLines(7), -1);
    }

    static void promise07_fileOfTheCommitAlone() {
        StrataRepo repo = State.ready();
        repo.delete(3);
        Edge.due(repo.discard(), 1);
        Edge.due(State.desk(repo, 3), "50");
    }

    static void promise07_fileWithoutLinesOfTheCommitAlone() {
        StrataRepo repo = State.allFiles();
        repo.commit(1);
        repo.delete(0);
        Edge.due(repo.isClean(), false);
        Edge.due(repo.discard(), 1);
        Edge.due(repo.deskLines(0), 0);
    }

    static void promise07_fileThatIsAgainAsItWas() {
        StrataRepo repo = State.ready();
        State.change(repo, 0, 8, 2, 9);
        Edge.due(repo.discard(), 0);
    }

    static void promise07_commitsAndBranchesStay() {
        StrataRepo repo = State.messy();
        Edge.due(repo.discard(), 2);
        Edge.due(repo.digest(), State.ready().digest());
    }

    static void promise07_workIsPending() {
        for (int kind = 1; kind <= 4; kind++) {
            int work = kind;
            Edge.refused(Edge.STATE, () -> State.busy(work), r -> r.discard());
        }
    }

    // ---- promise 28: deskLines

    static void promise28_file0AndFile7() {
        StrataRepo repo = State.allFiles();
        for (int file = 0; file < 8; file++) {
            Edge.due(repo.deskLines(file), file);
        }
    }

    static void promise28_notThereAndWithoutLinesAndForty() {
        StrataRepo repo = State.desk(1);
        State.put(repo, 2, State.row(0, 40));
        Edge.due(repo.deskLines(0), -1);
        Edge.due(repo.deskLines(1), 0);
        Edge.due(repo.deskLines(2), 40);
        Edge.due(repo.deskLines(7), -1);
    }

    static void promise28_fileIsNot0To7() {
        Edge.refused(Edge.INDEX, StrataRepo::new, State.NO_FILES, (r, file) -> r.deskLines(file));
        Edge.refused(Edge.INDEX, () -> State.busy(1), State.NO_FILES, (r, file) -> r.deskLines(file));
    }

    static void promise28_whileWorkIsPending() {
        Edge.due(State.busy(1).deskLines(0), 3);
        Edge.due(State.busy(1).deskLines(3), 1);
        Edge.due(State.busy(4).deskLines(3), -1);
        Edge.due(State.busy(4).deskLines(2), 1);
    }

    // ---- promise 29: deskLine

    static void promise29_place0AndTheLast() {
        StrataRepo repo = State.desk(0, 0, 5, 999);
        State.put(repo, 7, State.row(100, 40));
        Edge.due(repo.deskLine(0, 0), 0);
        Edge.due(repo.deskLine(0, 2), 999);
        Edge.due(repo.deskLine(7, 0), 100);
        Edge.due(repo.deskLine(7, 39), 139);
    }

    static void promise29_noSuchPlace() {
        Edge.refused(Edge.INDEX, () -> State.desk(0, 4, 5, 6), Edge.numbers(-1, 3, 4, 39, 40, MIN, MAX),
                (r, place) -> r.deskLine(0, place));
        Edge.refused(Edge.INDEX, () -> State.desk(7, State.row(100, 40)), Edge.numbers(-1, 40, 41),
                (r, place) -> r.deskLine(7, place));
        Edge.refused(Edge.INDEX, () -> State.desk(6, State.row(100, 40)), Edge.numbers(-1, 40, 41),
                (r, place) -> r.deskLine(6, place));
    }

    static void promise29_fileWithoutLines() {
        Edge.refused(Edge.INDEX, () -> State.desk(0), Edge.numbers(-1, 0, 1, MIN, MAX), (r, place) -> r.deskLine(0, place));
    }

    static void promise29_placeThatWasErased() {
        Edge.refused(Edge.INDEX, () -> {
            StrataRepo repo = State.desk(0, 4, 5, 6);
            repo.erase(0, 0);
            return repo;
        }, r -> r.deskLine(0, 2));
    }

    static void promise29_fileIsNotThere() {
        Edge.refused(Edge.INDEX, () -> State.desk(3, 1), r -> r.deskLine(2, 0), r -> r.deskLine(4, 0), r -> r.deskLine(0, -1));
        Edge.refused(Edge.INDEX, () -> {
            StrataRepo repo = State.desk(3, 1);
            repo.delete(3);
            return repo;
        }, r -> r.deskLine(3, 0));
    }

    static void promise29_fileIsNot0To7() {
        Edge.refused(Edge.INDEX, State::allFiles, State.NO_FILES, (r, file) -> r.deskLine(file, 0));
        Edge.refused(Edge.INDEX, State::allFiles, LEAST_AND_GREATEST, (r, number) -> r.deskLine(number, number));
    }

    static void promise29_whileWorkIsPending() {
        Edge.due(State.desk(State.busy(1), 0), "8 2 9");
        Edge.due(State.desk(State.busy(4), 0), "4 2 5");
    }

    // ---- promise 30: isClean

    static void promise30_withoutACommit() {
        StrataRepo repo = new StrataRepo();
        Edge.due(repo.isClean(), true);
        repo.create(7);
        Edge.due(repo.isClean(), false);
        repo.delete(7);
        Edge.due(repo.isClean(), true);
    }

    static void promise30_lastLineOfTheLastFile() {
        StrataRepo repo = State.desk(7, State.row(0, 40));
        repo.commit(1);
        Edge.due(repo.isClean(), true);
        repo.replace(7, 39, 999);
        Edge.due(repo.isClean(), false);
        repo.replace(7, 39, 39);
        Edge.due(repo.isClean(), true);
        repo.erase(7, 39);
        Edge.due(repo.isClean(), false);
        repo.insert(7, 39, 39);
        Edge.due(repo.isClean(), true);
    }

    static void promise30_fileWithoutLinesIsNotNoFile() {
        StrataRepo repo = State.desk(0, 1);
        repo.commit(1);
        repo.create(1);
        Edge.due(repo.isClean(), false);
        repo.commit(2);
        Edge.due(repo.isClean(), true);
        repo.delete(1);
        Edge.due(repo.isClean(), false);
    }

    static void promise30_sameLinesInAnotherFile() {
        StrataRepo repo = State.desk(0, 1, 2);
        repo.commit(1);
        repo.delete(0);
        State.put(repo, 1, 1, 2);
        Edge.due(repo.isClean(), false);
    }

    static void promise30_sameLinesInAnotherOrder() {
        StrataRepo repo = State.desk(0, 1, 2);
        repo.commit(1);
        State.change(repo, 0, 2, 1);
        Edge.due(repo.isClean(), false);
    }

    static void promise30_asAnotherCommitIsNotEnough() {
        StrataRepo repo = State.chain(2);
        repo.replace(0, 0, 0);
        Edge.due(repo.isClean(), false);
        repo.reset(0);
        Edge.due(repo.isClean(), true);
    }

    static void promise30_whileWorkIsPending() {
        for (int kind = 1; kind <= 4; kind++) {
            Edge.due(State.busy(kind).isClean(), true);
        }
    }

    public static void main(String[] arguments) {
        Edge.run(DeskEdgeTest.class);
    }
}
