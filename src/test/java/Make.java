/** Brings repositories to where a test begins. */
final class Make {
    private Make() {
    }

    /** Gives a file of the desk just these lines, whether it was there or not. */
    static void file(StrataRepo repo, int file, int... lines) {
        if (repo.deskLines(file) >= 0) {
            repo.delete(file);
        }
        repo.create(file);
        for (int place = 0; place < lines.length; place++) {
            repo.insert(file, place, lines[place]);
        }
    }

    static int commit(StrataRepo repo, int word, int file, int... lines) {
        file(repo, file, lines);
        return repo.commit(word);
    }

    /** Lines from first on, each 1 more. */
    static int[] row(int first, int size) {
        int[] row = new int[size];
        for (int n = 0; n < size; n++) {
            row[n] = first + n;
        }
        return row;
    }

    /** Commit 0 with file 0 on branch 0 and 1, then 1 on branch 0 and 2 on branch 1, which is the HEAD. */
    static StrataRepo fork(int[] base, int[] theirs, int[] ours) {
        StrataRepo repo = new StrataRepo();
        commit(repo, 10, 0, base);
        repo.branch(1);
        commit(repo, 20, 0, theirs);
        repo.go(1);
        commit(repo, 30, 0, ours);
        return repo;
    }

    /** A fork in which merge(0), carry(1), takeBack(1) and replay(0) are each in one CONFLICT. */
    static StrataRepo clash() {
        return fork(new int[] {1, 2, 3}, new int[] {1, 4, 3}, new int[] {1, 5, 3});
    }

    static StrataRepo pendingMerge() {
        StrataRepo repo = clash();
        repo.merge(0);
        return repo;
    }

    /** As many commits as are wanted, each with another line in file 0. */
    static StrataRepo chain(int size) {
        StrataRepo repo = new StrataRepo();
        commit(repo, 0, 0, 0);
        for (int n = 1; n < size; n++) {
            repo.replace(0, 0, n);
            repo.commit(n);
        }
        return repo;
    }

    static String lines(StrataRepo repo, int commit, int file) {
        StringBuilder text = new StringBuilder();
        int size = repo.lines(commit, file);
        if (size < 0) {
            return "none";
        }
        for (int place = 0; place < size; place++) {
            text.append(place == 0 ? "" : " ").append(repo.lineAt(commit, file, place));
        }
        return text.toString();
    }

    static String desk(StrataRepo repo, int file) {
        StringBuilder text = new StringBuilder();
        int size = repo.deskLines(file);
        if (size < 0) {
            return "none";
        }
        for (int place = 0; place < size; place++) {
            text.append(place == 0 ? "" : " ").append(repo.deskLine(file, place));
        }
        return text.toString();
    }
}
