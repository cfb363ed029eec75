/** Objects as they stand where an edge test begins, made with few calls; clean, if not told otherwise. */
final class State {
    /** The numbers that are no file. */
    static final int[] NO_FILES = {-1, 8, 9, Edge.MIN, Edge.MAX};
    /** The numbers that are no line, no word. */
    static final int[] NO_LINES = {-1, 1000, 1001, Edge.MIN, Edge.MAX};
    /** The numbers that are no branch's. */
    static final int[] NO_BRANCHES = {-1, -2, 8, 9, Edge.MIN, Edge.MAX};

    private State() {
    }

    /** Puts a new file on the DESK, with these lines. */
    static void put(StrataRepo repo, int file, int... lines) {
        repo.create(file);
        for (int place = 0; place < lines.length; place++) {
            repo.insert(file, place, lines[place]);
        }
    }

    /** Puts these lines into a file that is there, in place of what it has. */
    static void change(StrataRepo repo, int file, int... lines) {
        repo.delete(file);
        put(repo, file, lines);
    }

    /** An object whose DESK, not committed, has one file. */
    static StrataRepo desk(int file, int... lines) {
        StrataRepo repo = new StrataRepo();
        put(repo, file, lines);
        return repo;
    }

    /** All eight files, not committed: the one named 0 without lines, each next one with one more. */
    static StrataRepo allFiles() {
        StrataRepo repo = new StrataRepo();
        for (int file = 0; file < 8; file++) {
            put(repo, file, row(100 * file, file));
        }
        return repo;
    }

    /** Numbers from first on, each 1 more. */
    static int[] row(int first, int size) {
        int[] row = new int[size];
        for (int n = 0; n < size; n++) {
            row[n] = first + n;
        }
        return row;
    }

    /** A row of commits, each the parent of the next: file 0 has the commit's number, as the word is. */
    static StrataRepo chain(int size) {
        StrataRepo repo = desk(0, 0);
        repo.commit(0);
        for (int n = 1; n < size; n++) {
            repo.replace(0, 0, n);
            repo.commit(n);
        }
        return repo;
    }

    /**
     * Commit 0 has file 0 (1 2 3); branch 0 is at 2, branch 1, the HEAD, at 5; a search is on, of
     * the SUSPECTS 3, 4 and 5. Commit 1 has other lines 0 and 2, commit 2 file 2 besides; 3 and 4
     * have again other lines 0 and 2, 5 has file 3 besides.
     */
    static StrataRepo ready() {
        StrataRepo repo = desk(0, 1, 2, 3);
        repo.commit(10);
        repo.branch(1);
        repo.replace(0, 0, 4);
        repo.replace(0, 2, 5);
        repo.commit(20);
        put(repo, 2, 30);
        repo.commit(25);
        repo.go(1);
        repo.replace(0, 0, 6);
        repo.replace(0, 2, 7);
        repo.commit(30);
        repo.replace(0, 0, 8);
        repo.replace(0, 2, 9);
        repo.commit(40);
        put(repo, 3, 50);
        repo.commit(50);
        repo.seek(0, 5);
        return repo;
    }

    /** As ready(), but not clean: file 0 is other, file 7 is there as well. */
    static StrataRepo messy() {
        StrataRepo repo = ready();
        repo.insert(0, 3, 77);
        repo.create(7);
        return repo;
    }

    /** As ready(), with WORK of a kind (as pending() tells it) PENDING; the second of two CONFLICTS is settled. */
    static StrataRepo busy(int kind) {
        StrataRepo repo = ready();
        if (kind == 1) {
            repo.merge(0);
        } else if (kind == 2) {
            repo.carry(1);
        } else if (kind == 3) {
            repo.takeBack(3);
        } else {
            repo.replay(0);
        }
        repo.settle(1, 1);
        return repo;
    }

    /** 60 commits were made: 0 to 57 a row, 58 on branch 0, and 59 on branch 1, which is the HEAD. */
    static StrataRepo full() {
        StrataRepo repo = chain(58);
        repo.branch(1);
        repo.create(1);
        repo.commit(58);
        repo.go(1);
        repo.create(2);
        repo.commit(59);
        return repo;
    }

    /** Of six commits 3 and 4 are GONE; 5 is behind 2. Branch 0, the HEAD, is at 5; a search is on, of 1, 2 and 5. */
    static StrataRepo swept() {
        StrataRepo repo = chain(5);
        repo.reset(2);
        repo.sweep();
        repo.create(1);
        repo.commit(5);
        repo.seek(0, 5);
        return repo;
    }

    /** All eight branches are at commit 0; 0 is the HEAD. */
    static StrataRepo allBranches() {
        StrataRepo repo = chain(1);
        for (int branch = 1; branch < 8; branch++) {
            repo.branch(branch);
        }
        return repo;
    }

    /** The lines of a file of the DESK as a text; "none", if it is not there. */
    static String desk(StrataRepo repo, int file) {
        int size = repo.deskLines(file);
        StringBuilder text = new StringBuilder(size < 0 ? "none" : "");
        for (int place = 0; place < size; place++) {
            text.append(place == 0 ? "" : " ").append(repo.deskLine(file, place));
        }
        return text.toString();
    }

    /** The lines of a file of a commit as a text; "none", if it is not there. */
    static String lines(StrataRepo repo, int commit, int file) {
        int size = repo.lines(commit, file);
        StringBuilder text = new StringBuilder(size < 0 ? "none" : "");
        for (int place = 0; place < size; place++) {
            text.append(place == 0 ? "" : " ").append(repo.lineAt(commit, file, place));
        }
        return text.toString();
    }

    /** The lines of a piece of a CONFLICT as a text; "none", if there is no such file. */
    static String piece(StrataRepo repo, int conflict, int side) {
        int size = repo.pieceSize(conflict, side);
        StringBuilder text = new StringBuilder(size < 0 ? "none" : "");
        for (int place = 0; place < size; place++) {
            text.append(place == 0 ? "" : " ").append(repo.pieceLine(conflict, side, place));
        }
        return text.toString();
    }
}
